section
/-! the model -/
def cdN : List Nat → Nat
  | [] => 0
  | t :: ts => t + 1 + 10 * cdN ts
theorem cdN_lt : ∀ p : List Nat, (∀ t, t ∈ p → t < 4) → cdN p < 10 ^ p.length
  | [], _ => by decide
  | t :: ts, h => by
    have h1 := cdN_lt ts (fun x hx => h x (List.mem_cons_of_mem _ hx))
    have h2 := h t (List.mem_cons_self ..)
    have h3 : 10 ^ (t :: ts).length = 10 * 10 ^ ts.length := by rw [List.length_cons, Nat.pow_succ, Nat.mul_comm]
    have h4 : cdN (t :: ts) = t + 1 + 10 * cdN ts := rfl
    omega
/-- a way, as the model goes it: none is gone through twice -/
def rwv (r : Nat → Nat) : Nat → (Nat → Bool) → List Nat → Nat × Nat → Option (Nat × Nat)
  | _, _, [], nd => some nd
  | here, g, t :: ts, nd => if (g t = true ∧ ts ≠ []) ∨ r (4 * here + t) = 0 then none else rwv r t (fun i => decide (i = t) || g i) ts (nd.1 * (r (4 * here + t) / 10), nd.2 * (r (4 * here + t) % 10))
def unl : (Nat → Bool) → List Nat → Bool
  | _, [] => true
  | g, t :: ts => (!g t || ts.isEmpty) && unl (fun i => decide (i = t) || g i) ts
theorem rwv_rv (r : Nat → Nat) : ∀ (p : List Nat) (here : Nat) (g : Nat → Bool) (nd c : Nat × Nat), rwv r here g p nd = some c ↔ unl g p = true ∧ rv r here p nd = some c
  | [], here, g, nd, c => by simp [rwv, unl, rv]
  | t :: ts, here, g, nd, c => by
    rw [rwv, rv, unl]
    by_cases h0 : r (4 * here + t) = 0
    · rw [if_pos (Or.inr h0), if_pos h0]
      exact ⟨fun h => (by cases h), fun h => h.2⟩
    · rw [if_neg h0]
      have ih := rwv_rv r ts t (fun i => decide (i = t) || g i) (nd.1 * (r (4 * here + t) / 10), nd.2 * (r (4 * here + t) % 10)) c
      cases hg : g t with
      | false =>
        rw [if_neg (fun z => z.elim (fun z => absurd z.1 (by decide)) h0), ih]
        simp
      | true =>
        cases ts with
        | nil =>
          rw [if_neg (fun z => z.elim (fun z => z.2 rfl) h0), ih]
          simp
        | cons u us =>
          rw [if_pos (Or.inl ⟨rfl, by simp⟩)]
          simp
def BestR (st : Option (Nat × Nat)) (S : Nat × Nat → Prop) : Prop := match st with
  | none => ∀ c, ¬ S c
  | some c => (∃ c0 g, S c0 ∧ 0 < g ∧ c0.1 = c.1 * g ∧ c0.2 = c.2 * g) ∧ Nat.gcd c.2 c.1 = 1 ∧ ∀ c', S c' → c'.1 * c.2 ≤ c.1 * c'.2
theorem BestR_ext {st : Option (Nat × Nat)} {S S' : Nat × Nat → Prop} (h : ∀ c, S c ↔ S' c) (hb : BestR st S) : BestR st S' := by
  have : S = S' := funext fun c => propext (h c)
  rw [← this]
  exact hb
theorem red_new {n d : Nat} {S : Nat × Nat → Prop} (hd : 1 ≤ d) (hS : S (n, d)) (h : ∀ c', S c' → c'.1 * d ≤ n * c'.2) : BestR (some (n / Nat.gcd d n, d / Nat.gcd d n)) S := by
  have gp : 0 < Nat.gcd d n := Nat.gcd_pos_of_pos_left _ hd
  have e1 : n / Nat.gcd d n * Nat.gcd d n = n := Nat.div_mul_cancel (Nat.gcd_dvd_right d n)
  have e2 : d / Nat.gcd d n * Nat.gcd d n = d := Nat.div_mul_cancel (Nat.gcd_dvd_left d n)
  refine ⟨⟨(n, d), Nat.gcd d n, hS, gp, e1.symm, e2.symm⟩, Nat.coprime_div_gcd_div_gcd gp, fun c' hc' => ?_⟩
  have h1 := h c' hc'
  refine Nat.le_of_mul_le_mul_right ?_ gp
  calc c'.1 * (d / Nat.gcd d n) * Nat.gcd d n = c'.1 * (d / Nat.gcd d n * Nat.gcd d n) := Nat.mul_assoc _ _ _
    _ = c'.1 * d := by rw [e2]
    _ ≤ n * c'.2 := h1
    _ = (n / Nat.gcd d n * Nat.gcd d n) * c'.2 := by rw [e1]
    _ = n / Nat.gcd d n * c'.2 * Nat.gcd d n := Nat.mul_right_comm _ _ _
theorem m_cmp {dd nS n d : Nat} {x1 x2 x5 x6 x7 : Int32} {z8 : Value} {st : Option (Nat × Nat)} {S : Nat × Nat → Prop} {M : am_M} {Q : Option Value → am_H → Prop} (hb : BestR st S) (hs : SBd st) (hn : 1 ≤ n ∧ n ≤ 6561) (hd : 1 ≤ d ∧ d ≤ 6561) (hQ : ∀ st', BestR st' (fun c => S c ∨ c = (n, d)) → SBd st' → Q none (hp nS (two M 205 1 2 (eA st') (eB 0 st')))) : am_Wp (dd + 2) 266 125 [.ref 205, .int x1, .int x2, .int (nI n), .int (nI d), .int x5, .int x6, .int x7, z8] [] (hp nS (two M 205 1 2 (eA st) (eB 0 st))) Q := by
  have gp : 0 < Nat.gcd d n := Nat.gcd_pos_of_pos_left _ (by omega)
  have g1 : Nat.gcd d n ≤ d := Nat.gcd_le_left _ (by omega)
  have g2 : Nat.gcd d n ≤ n := Nat.gcd_le_right _ (by omega)
  have hnew : SBd (some (n / Nat.gcd d n, d / Nat.gcd d n)) := fun c hc => by
    cases hc
    exact ⟨Nat.div_pos g2 gp, Nat.le_trans (Nat.div_le_self _ _) hn.2, Nat.div_pos g1 gp, Nat.le_trans (Nat.div_le_self _ _) hd.2⟩
  have put : (∀ c', (S c' ∨ c' = (n, d)) → c'.1 * d ≤ n * c'.2) → am_Wp (dd + 2) 266 149 [.ref 205, .int x1, .int x2, .int (nI n), .int (nI d), .int x5, .int x6, .int x7, z8] [] (hp nS (two M 205 1 2 (eA st) (eB 0 st))) Q := by
    intro h
    rw [b_266_149, m_frac (by omega) (by omega) hd.1, am_ans_none, b_266_156, two_up]
    exact hQ (some (n / Nat.gcd d n, d / Nat.gcd d n)) (red_new hd.1 (Or.inr rfl) h) hnew
  rw [b_266_125, two_2]
  cases st with
  | none =>
    rw [if_pos (show eB 0 none = 0 from rfl)]
    refine put (fun c' hc' => ?_)
    rcases hc' with hc' | hc'
    · exact absurd hc' (hb c')
    · rw [hc']; exact Nat.le_refl _
  | some c =>
    obtain ⟨h1, h2, h3, h4⟩ := hs c rfl
    have m1 := mul_6561 hn.2 h4
    have m2 := mul_6561 h2 hd.2
    rw [if_neg (show ¬ eB 0 (some c) = 0 from nI_ne0 (by omega) (by omega)), b_266_132, two_1 _ _ _ _ (by decide), two_2]
    by_cases hlt : c.1 * d < n * c.2
    · rw [if_pos (show eA (some c) * nI d < nI n * eB 0 (some c) by rw [eA, eB, pk_mul, pk_mul, lt_n (by omega) (by omega)]; exact hlt)]
      refine put (fun c' hc' => ?_)
      rcases hc' with hc' | hc'
      · exact frac_tr h3 (hb.2.2 c' hc') (Nat.le_of_lt hlt)
      · rw [hc']; exact Nat.le_refl _
    · rw [if_neg (show ¬ eA (some c) * nI d < nI n * eB 0 (some c) by rw [eA, eB, pk_mul, pk_mul, lt_n (by omega) (by omega)]; exact hlt), b_266_148]
      refine hQ (some c) ⟨?_, hb.2.1, fun c' hc' => ?_⟩ hs
      · obtain ⟨c0, g, q1, q2⟩ := hb.1
        exact ⟨c0, g, Or.inl q1, q2⟩
      · rcases hc' with hc' | hc'
        · exact hb.2.2 c' hc'
        · rw [hc']; show n * c.2 ≤ c.1 * d; omega
theorem m_tries {dd nS : Nat} {x1 x2 : Int32} {M : am_M} {Q : Option Value → am_H → Prop} (r : Nat → Nat) (hr : ∀ k, k < 16 → M 229 k = nI (r k)) (hz : rts r) : ∀ (p : List Nat) (here n d : Nat) (g : Nat → Bool) (been : Int32) (z8 : Value), (∀ t, t ∈ p → t < 4) → p.length ≤ 4 → here < 4 → (∀ j, j < 4 → bt been j = g j) → 1 ≤ n → 1 ≤ d → n * 9 ^ p.length ≤ 6561 → d * 9 ^ p.length ≤ 6561 → (rwv r here g p (n, d) = none → Q none (hp nS M)) → (∀ c : Nat × Nat, ∀ x5 x6 : Int32, ∀ z8 : Value, rwv r here g p (n, d) = some c → 1 ≤ c.1 ∧ c.1 ≤ 6561 → 1 ≤ c.2 ∧ c.2 ≤ 6561 → am_Wp (dd + 1) 266 125 [.ref 205, .int x1, .int x2, .int (nI c.1), .int (nI c.2), .int x5, .int x6, .int 0, z8] [] (hp nS M) Q) → am_Wp (dd + 1) 266 16 [.ref 205, .int x1, .int x2, .int (nI n), .int (nI d), .int (nI here), .int been, .int (nI (cdN p)), z8] [] (hp nS M) Q := by
  intro p
  induction p with
  | nil =>
    intro here n d g been z8 hp4 hl hhe hg h1n h1d hn hd hN hS
    rw [b_266_16, if_pos (by decide)]
    exact hS (n, d) _ _ _ rfl ⟨h1n, nine_le hn⟩ ⟨h1d, nine_le hd⟩
  | cons t ts ih =>
    intro here n d g been z8 hp4 hl hhe hg h1n h1d hn hd hN hS
    have ht : t < 4 := hp4 t (List.mem_cons_self ..)
    have hts : ∀ x, x ∈ ts → x < 4 := fun x hx => hp4 x (List.mem_cons_of_mem _ hx)
    have hc1 := cdN_lt ts hts
    have hl' : ts.length ≤ 3 := by rw [List.length_cons] at hl; omega
    have hp10 : 10 ^ ts.length ≤ 10 ^ 3 := Nat.pow_le_pow_right (by omega) hl'
    have hcd : cdN (t :: ts) = t + 1 + 10 * cdN ts := rfl
    have hsm : cdN (t :: ts) < 100000 := by omega
    have ed : nI (cdN (t :: ts)) / 10 = nI (cdN ts) := by rw [show (10 : Int32) = nI 10 from rfl, pk_div (by omega) (by decide) (by decide)]; congr 1; omega
    have er : nI (cdN (t :: ts)) - nI (cdN (t :: ts)) / 10 * 10 - 1 = nI t := by
      rw [show (10 : Int32) = nI 10 from rfl, pk_rem (by omega) (by decide) (by decide), show cdN (t :: ts) % 10 = t + 1 by omega, sub1 (by omega)]
      rfl
    have hk : 4 * here + t < 16 := by omega
    obtain ⟨h99, hpos⟩ := hz _ hk
    have stop : rwv r here g (t :: ts) (n, d) = none → ∀ x8 : Int32, am_Wp (dd + 1) 266 63 [.ref 205, .int x1, .int x2, .int (nI n), .int (nI d), .int (nI here), .int been, .int (nI (cdN (t :: ts))), .int x8] [] (hp nS M) Q := by
      intro h x8
      rw [b_266_63]
      exact hN h
    have go : ¬ (g t = true ∧ ts ≠ []) → am_Wp (dd + 1) 266 48 [.ref 205, .int x1, .int x2, .int (nI n), .int (nI d), .int (nI here), .int been, .int (nI (cdN (t :: ts))), .int (nI t)] [] (hp nS M) Q := by
      intro hng
      rw [b_266_48 (by rw [mul4']; exact in_n hk (by omega)), mul4', cl_n (by omega), hr _ hk]
      by_cases h0 : r (4 * here + t) = 0
      · rw [if_neg (fun z => z (by rw [h0]; rfl))]
        exact stop (by rw [rwv, if_pos (Or.inr h0)]) _
      · obtain ⟨p1, p2⟩ := hpos h0
        have e10 : nI (r (4 * here + t)) / 10 = nI (r (4 * here + t) / 10) := pk_div (by omega) (by decide) (by decide)
        have e1r : nI (r (4 * here + t)) - nI (r (4 * here + t)) / 10 * 10 = nI (r (4 * here + t) % 10) := pk_rem (by omega) (by decide) (by decide)
        rw [List.length_cons] at hn hd
        rw [if_pos (nI_ne0 (by omega) (by omega)), b_266_64 (by rw [mul4']; exact in_n hk (by omega)) (by rw [mul4']; exact in_n hk (by omega)), mul4', cl_n (by omega), hr _ hk, e1r, e10, pk_mul, pk_mul, ed]
        have er2 : rwv r here g (t :: ts) (n, d) = rwv r t (fun i => decide (i = t) || g i) ts (n * (r (4 * here + t) / 10), d * (r (4 * here + t) % 10)) := by
          rw [rwv, if_neg (fun z => z.elim hng h0)]
        refine ih t _ _ (fun i => decide (i = t) || g i) _ _ hts (by omega) ht (fun j hj => ?_) (ge1_mul h1n p1) (ge1_mul h1d p2) (nine hn (by omega)) (nine hd (by omega)) (fun h => hN (er2.trans h)) (fun c x5 x6 z8 h => hS c x5 x6 z8 (er2.trans h))
        rw [bit_set (by omega) (by omega), hg j hj, Bool.or_comm]
    rw [b_266_16, if_neg (by rw [li, le_n (by omega) (by omega)]; omega), b_266_21, er, c_267, am_ans_some, b_266_38]
    cases hgt : g t with
    | false =>
      rw [ite0_f (fun z => z (by rw [bit_get (by omega), hg t ht, hgt]; decide))]
      exact go (fun z => by rw [hgt] at z; exact absurd z.1 (by decide))
    | true =>
      rw [ite0_t (show ¬ (¬ ((been >>> (nI t &&& 31)) &&& 1) = 1) from fun z => z (by rw [bit_get (by omega), hg t ht, hgt])), b_266_41]
      cases ts with
      | nil =>
        rw [if_neg (by rw [li, lt_n (by omega) (by omega)]; show ¬ 9 < t + 1 + 10 * 0; omega)]
        exact go (fun z => z.2 rfl)
      | cons u us =>
        have : cdN (u :: us) = u + 1 + 10 * cdN us := rfl
        rw [if_pos (by rw [li, lt_n (by omega) (by omega)]; omega)]
        exact stop (by rw [rwv, if_pos (Or.inl ⟨hgt, by simp⟩)]) _
def pm (a x y z : Nat) : List Nat := (z - 1) :: ((if y = 0 then [] else [y - 1]) ++ ((if x = 0 then [] else [x - 1]) ++ [a]))
def okT (a x y z : Nat) : Bool := !(decide (0 < x) && decide (y = 0)) && !decide (x = a + 1) && !decide (y = a + 1) && !decide (z = a + 1)
def SM (r : Nat → Nat) (a N : Nat) (c : Nat × Nat) : Prop := ∃ x y z, x < 5 ∧ y < 5 ∧ 1 ≤ z ∧ z < 5 ∧ 25 * x + 5 * y + z < N ∧ okT a x y z = true ∧ rwv r a (gHm a) (pm a x y z) (1, 1) = some c
theorem pm_fin : (List.range 4).all (fun a => (List.range 5).all (fun x => (List.range 5).all (fun y => (List.range 5).all (fun z => !(decide (1 ≤ z) && okT a x y z && unl (gHm a) (pm a x y z)) || (pth a 4 (gHm a)).contains (pm a x y z))))) = true := by decide +kernel
theorem pm_all (a : Nat) (ha : a < 4) (x : Nat) (hx : x < 5) (y : Nat) (hy : y < 5) (z : Nat) (hz : z < 5) (h1 : 1 ≤ z) (h2 : okT a x y z = true) (h3 : unl (gHm a) (pm a x y z) = true) : pm a x y z ∈ pth a 4 (gHm a) := by
  have h := List.all_eq_true.mp (List.all_eq_true.mp (List.all_eq_true.mp (List.all_eq_true.mp pm_fin a (List.mem_range.mpr ha)) x (List.mem_range.mpr hx)) y (List.mem_range.mpr hy)) z (List.mem_range.mpr hz)
  rw [decide_eq_true h1, h2, h3] at h
  exact List.contains_iff_mem.mp (by simpa using h)
theorem pth_fin : (List.range 4).all (fun a => (pth a 4 (gHm a)).all (fun p => (p == [a]) || (List.range 5).any (fun x => (List.range 5).any (fun y => (List.range 5).any (fun z => decide (1 ≤ z) && okT a x y z && unl (gHm a) (pm a x y z) && (pm a x y z == p)))))) = true := by decide +kernel
theorem pth_all (a : Nat) (ha : a < 4) (p : List Nat) (hp' : p ∈ pth a 4 (gHm a)) : p = [a] ∨ ∃ x, x < 5 ∧ ∃ y, y < 5 ∧ ∃ z, z < 5 ∧ 1 ≤ z ∧ okT a x y z = true ∧ unl (gHm a) (pm a x y z) = true ∧ pm a x y z = p := by
  have h := List.all_eq_true.mp (List.all_eq_true.mp pth_fin a (List.mem_range.mpr ha)) p hp'
  rw [Bool.or_eq_true] at h
  rcases h with h | h
  · exact Or.inl (by simpa using h)
  · obtain ⟨x, hx, h⟩ := List.any_eq_true.mp h
    obtain ⟨y, hy, h⟩ := List.any_eq_true.mp h
    obtain ⟨z, hz, h⟩ := List.any_eq_true.mp h
    rw [Bool.and_eq_true, Bool.and_eq_true, Bool.and_eq_true] at h
    exact Or.inr ⟨x, List.mem_range.mp hx, y, List.mem_range.mp hy, z, List.mem_range.mp hz, of_decide_eq_true h.1.1.1, h.1.1.2, h.1.2, by simpa using h.2⟩
theorem SM_rd {r : Nat → Nat} {a : Nat} (ha : a < 4) (hd : r (5 * a) = 0) (c : Nat × Nat) : SM r a 200 c ↔ rdS r a c := by
  constructor
  · rintro ⟨x, y, z, hx, hy, hz1, hz, _, ho, hv⟩
    rw [rwv_rv] at hv
    exact ⟨pm a x y z, pm_all a ha x hx y hy z hz hz1 ho hv.1, hv.2⟩
  · rintro ⟨p, hp, hv⟩
    rcases pth_all a ha p hp with rfl | ⟨x, hx, y, hy, z, hz, hz1, ho, hu, rfl⟩
    · rw [rv, if_pos (by rw [show 4 * a + a = 5 * a by omega]; exact hd)] at hv
      cases hv
    · exact ⟨x, y, z, hx, hy, hz1, hz, by omega, ho, by rw [rwv_rv]; exact ⟨hu, hv⟩⟩
theorem SM_s {r : Nat → Nat} {a x y z : Nat} (hx : x < 5) (hy : y < 5) (hz1 : 1 ≤ z) (hz : z < 5) (c : Nat × Nat) : SM r a (25 * x + 5 * y + z + 1) c ↔ SM r a (25 * x + 5 * y + z) c ∨ (okT a x y z = true ∧ rwv r a (gHm a) (pm a x y z) (1, 1) = some c) := by
  constructor
  · rintro ⟨x', y', z', h1, h2, h3, h4, h5, h6⟩
    by_cases e : 25 * x' + 5 * y' + z' < 25 * x + 5 * y + z
    · exact Or.inl ⟨x', y', z', h1, h2, h3, h4, e, h6⟩
    · have e1 : x' = x := by omega
      have e2 : y' = y := by omega
      have e3 : z' = z := by omega
      subst e1 e2 e3
      exact Or.inr h6
  · rintro (⟨x', y', z', h1, h2, h3, h4, h5, h6⟩ | h)
    · exact ⟨x', y', z', h1, h2, h3, h4, by omega, h6⟩
    · exact ⟨x, y, z, hx, hy, hz1, hz, by omega, h⟩
theorem SM_j {r : Nat → Nat} {a x y : Nat} (c : Nat × Nat) : SM r a (25 * x + 5 * y + 5 + 1) c ↔ SM r a (25 * x + 5 * y + 5) c := by
  constructor
  · rintro ⟨x', y', z', h1, h2, h3, h4, h5, h6⟩
    exact ⟨x', y', z', h1, h2, h3, h4, by omega, h6⟩
  · rintro ⟨x', y', z', h1, h2, h3, h4, h5, h6⟩
    exact ⟨x', y', z', h1, h2, h3, h4, by omega, h6⟩
theorem m1_eq : ∀ x, x < 6 → ∀ a, a < 4 → (nI x - 1 = nI a ↔ x = a + 1) := by decide +kernel
def rdM (st : Option (Nat × Nat)) (x2 : Int32) : Int32 := match st with
  | none => -1
  | some c => if x2 = 0 then nI c.1 else nI c.2
theorem ten (a b : Nat) : (10 : Int32) * nI a + nI b = nI (10 * a + b) := by
  have : (10 : Int32) * nI a = nI (10 * a) := pk_mul 10 a
  rw [this, nI_add]
theorem m_round {dd nS a : Nat} {x2 : Int32} {M : am_M} {Q : Option Value → am_H → Prop} (r : Nat → Nat) (hr : ∀ k, k < 16 → M 229 k = nI (r k)) (hz : rts r) (ha : a < 4) (hd : r (5 * a) = 0) (hQ : ∀ st u v, BestR st (rdS r a) → SBd st → Q (some (.int (rdM st x2))) (hp nS (two M 205 1 2 u v))) : am_Wp (dd + 3) 265 27 [.ref 205, .int (nI a), .int x2, .retAddr 0, .retAddr 0, .retAddr 0, .retAddr 0] [] (hp nS M) Q := by
  have fin : ∀ st (x3 : Int32) z4 z5 z6, BestR st (SM r a 200) → SBd st → am_Wp (dd + 3) 265 165 [.ref 205, .int (nI a), .int x2, .int x3, z4, z5, z6] [] (hp nS (two M 205 1 2 (eA st) (eB 0 st))) Q := by
    intro st x3 z4 z5 z6 hb hs
    have hb' : BestR st (rdS r a) := BestR_ext (SM_rd ha hd) hb
    have hq := hQ st (eA st) (eB 0 st) hb' hs
    rw [b_265_165, two_2]
    cases st with
    | none =>
      rw [if_neg (fun z => z rfl), b_265_172, b_265_191]
      exact hq
    | some c =>
      obtain ⟨h1, h2, h3, h4⟩ := hs c rfl
      rw [if_pos (show ¬ eB 0 (some c) = 0 from nI_ne0 (by omega) (by omega)), b_265_176]
      by_cases hx : x2 = 0
      · rw [if_neg (fun z => z hx), b_265_180, two_1 _ _ _ _ (by decide), b_265_191]
        have : rdM (some c) x2 = nI c.1 := if_pos hx
        rw [this] at hq
        exact hq
      · rw [if_pos hx, b_265_187, two_2, b_265_191]
        have : rdM (some c) x2 = nI c.2 := if_neg hx
        rw [this] at hq
        exact hq
  have key : ∀ m x y z st z6, 25 * x + 5 * y + z + m = 130 → x < 5 → y < 5 → 1 ≤ z → z ≤ 5 → BestR st (SM r a (25 * x + 5 * y + z)) → SBd st → am_Wp (dd + 3) 265 56 [.ref 205, .int (nI a), .int x2, .int (nI x), .int (nI y), .int (nI z), z6] [] (hp nS (two M 205 1 2 (eA st) (eB 0 st))) Q := by
    intro m
    induction m with
    | zero => intro x y z st z6 hm hx hy hz1 hz5; omega
    | succ m ih =>
      intro x y z st z6 hm hx hy hz1 hz5 hb hs
      rw [b_265_56]
      by_cases hz' : z = 5
      · subst hz'
        have hb' : BestR st (SM r a (25 * x + 5 * y + 5 + 1)) := BestR_ext (fun c => (SM_j c).symm) hb
        rw [if_pos (by decide), b_265_153, nI_1, b_265_47]
        by_cases hy5 : y + 1 = 5
        · rw [if_pos (by rw [hy5]; decide), b_265_159, nI_1, b_265_39]
          by_cases hx5 : x + 1 = 5
          · rw [if_pos (by rw [hx5]; decide)]
            refine fin st _ _ _ _ (BestR_ext (fun c => ⟨?_, ?_⟩) hb') hs
            · rintro ⟨x', y', z', h1, h2, h3, h4, h5, h6⟩
              exact ⟨x', y', z', h1, h2, h3, h4, by omega, h6⟩
            · rintro ⟨x', y', z', h1, h2, h3, h4, h5, h6⟩
              exact ⟨x', y', z', h1, h2, h3, h4, by omega, h6⟩
          · rw [if_neg (by rw [li, le_n (by omega) (by omega)]; omega), b_265_44, b_265_47, if_neg (by decide), b_265_53]
            have := ih (x + 1) 0 1 st z6 (by omega) (by omega) (by omega) (by omega) (by omega)
            rw [show 25 * (x + 1) + 5 * 0 + 1 = 25 * x + 5 * y + 5 + 1 by omega] at this
            exact this hb' hs
        · rw [if_neg (by rw [li, le_n (by omega) (by omega)]; omega), b_265_53]
          have := ih x (y + 1) 1 st z6 (by omega) (by omega) (by omega) (by omega) (by omega)
          rw [show 25 * x + 5 * (y + 1) + 1 = 25 * x + 5 * y + 5 + 1 by omega] at this
          exact this hb' hs
      · have go : ∀ st' (z6 : Value), BestR st' (SM r a (25 * x + 5 * y + z + 1)) → SBd st' → am_Wp (dd + 3) 265 147 [.ref 205, .int (nI a), .int x2, .int (nI x), .int (nI y), .int (nI z), z6] [] (hp nS (two M 205 1 2 (eA st') (eB 0 st'))) Q := by
          intro st' z6 hb' hs'
          rw [b_265_147, nI_1]
          exact ih x y (z + 1) st' z6 (by omega) hx hy (by omega) (by omega) hb' hs'
        have skip : ∀ z6 : Value, okT a x y z = false → am_Wp (dd + 3) 265 147 [.ref 205, .int (nI a), .int x2, .int (nI x), .int (nI y), .int (nI z), z6] [] (hp nS (two M 205 1 2 (eA st) (eB 0 st))) Q := by
          intro z6 ho
          refine go st z6 (BestR_ext (fun c => ?_) hb) hs
          rw [SM_s hx hy hz1 (by omega)]
          exact ⟨Or.inl, fun h => h.elim id (fun h => by rw [ho] at h; exact absurd h.1 (by decide))⟩
        have run : ∀ q : Nat, ¬ (0 < x ∧ y = 0) → 10 * q + z = cdN (pm a x y z) → am_Wp (dd + 3) 265 107 [.ref 205, .int (nI a), .int x2, .int (nI x), .int (nI y), .int (nI z), .int (nI q)] [] (hp nS (two M 205 1 2 (eA st) (eB 0 st))) Q := by
          intro q hxy hq
          rw [b_265_107, ten, hq]
          by_cases c1 : x = a + 1
          · rw [if_pos ((m1_eq x (by omega) a ha).mpr c1)]
            exact skip _ (by simp [okT, c1])
          · rw [if_neg (fun z => c1 ((m1_eq x (by omega) a ha).mp z)), b_265_124]
            by_cases c2 : y = a + 1
            · rw [if_pos ((m1_eq y (by omega) a ha).mpr c2)]
              exact skip _ (by simp [okT, c2])
            · rw [if_neg (fun z => c2 ((m1_eq y (by omega) a ha).mp z)), b_265_132]
              by_cases c3 : z = a + 1
              · rw [if_pos ((m1_eq z (by omega) a ha).mpr c3)]
                exact skip _ (by simp [okT, c3])
              · have ho : okT a x y z = true := by
                  have : ¬ (0 < x) ∨ ¬ (y = 0) := by omega
                  rcases this with h | h
                  · simp [okT, c1, c2, c3]; omega
                  · simp [okT, c1, c2, c3, h]
                rw [if_neg (fun w => c3 ((m1_eq z (by omega) a ha).mp w)), b_265_140, b_266_0]
                have hlen : (pm a x y z).length ≤ 4 ∧ ∀ t, t ∈ pm a x y z → t < 4 := by
                  unfold pm
                  by_cases hx0 : x = 0
                  · by_cases hy0 : y = 0
                    · simp [hx0, hy0]; omega
                    · simp [hx0, hy0]; omega
                  · by_cases hy0 : y = 0
                    · simp [hx0, hy0]; omega
                    · simp [hx0, hy0]; omega
                have h9 : 1 * 9 ^ (pm a x y z).length ≤ 6561 := by
                  have : 9 ^ (pm a x y z).length ≤ 9 ^ 4 := Nat.pow_le_pow_right (by omega) hlen.1
                  omega
                refine m_tries (n := 1) (d := 1) r (fun k hk => by rw [two_ne _ _ _ _ _ (by decide)]; exact hr k hk) hz (pm a x y z) a (gHm a) _ _ hlen.2 hlen.1 ha (fun j hj => bit_one (by omega) (by omega)) (by omega) (by omega) h9 h9 (fun hn => ?_) (fun c x5 x6 z8 hc h1 h2 => ?_)
                · rw [am_ans_none]
                  refine go st _ (BestR_ext (fun c => ?_) hb) hs
                  rw [SM_s hx hy hz1 (by omega)]
                  exact ⟨Or.inl, fun h => h.elim id (fun h => by rw [hn] at h; cases h.2)⟩
                · refine m_cmp hb hs h1 h2 (fun st' hb' hs' => ?_)
                  rw [am_ans_none]
                  refine go st' _ (BestR_ext (fun c' => ?_) hb') hs'
                  rw [SM_s hx hy hz1 (by omega), hc]
                  exact ⟨fun h => h.elim Or.inl (fun h => Or.inr ⟨ho, by rw [h]⟩), fun h => h.elim Or.inl (fun h => Or.inr (by cases h.2; rfl))⟩
        rw [if_neg (by rw [li, le_n (by omega) (by omega)]; omega), b_265_62]
        by_cases hx0 : x = 0
        · subst hx0
          rw [if_pos (by decide), b_265_74, if_pos (by decide), nI_1, b_265_92]
          by_cases hy0 : y = 0
          · subst hy0
            rw [if_pos (by decide)]
            exact run (a + 1) (by omega) (by simp [pm, cdN]; omega)
          · rw [if_neg (by rw [li, le_n (by omega) (by omega)]; omega), b_265_97, ten]
            exact run (10 * (a + 1) + y) (by omega) (by simp [pm, cdN, hy0]; omega)
        · rw [if_neg (by rw [li, le_n (by omega) (by omega)]; omega), b_265_66]
          by_cases hy0 : y = 0
          · subst hy0
            rw [if_neg (fun z => z rfl), b_265_71]
            refine skip _ ?_
            have : 0 < x := by omega
            simp [okT, this]
          · rw [if_pos (nI_ne0 (by omega) (by omega)), b_265_74, if_neg (by rw [li, le_n (by omega) (by omega)]; omega), b_265_83, nI_1, ten, b_265_92, if_neg (by rw [li, le_n (by omega) (by omega)]; omega), b_265_97, ten]
            exact run (10 * (10 * (a + 1) + x) + y) (by omega) (by simp [pm, cdN, hy0, hx0]; omega)
  rw [b_265_27, b_265_39, if_neg (by decide), b_265_44, b_265_47, if_neg (by decide), b_265_53]
  refine key 129 0 0 1 none _ (by omega) (by omega) (by omega) (by omega) (by omega) ?_ (fun c h => by cases h)
  rintro c ⟨x', y', z', h1, h2, h3, h4, h5, h6⟩
  omega
theorem rd_eq {st st' : Option (Nat × Nat)} {S : Nat × Nat → Prop} (x2 : Int32) (hs : SBd st) (hs' : SBd st') (h : Best st S) (h' : BestR st' S) : rdX st x2 = rdM st' x2 := by
  cases st with
  | none =>
    cases st' with
    | none => rfl
    | some c' =>
      obtain ⟨⟨c0, g, hc0, _⟩, _⟩ := h'
      exact absurd hc0 (h c0)
  | some c =>
    cases st' with
    | none => exact absurd h.1 (h' c)
    | some c' =>
      obtain ⟨⟨c0, g, hc0, hg, e1, e2⟩, hco, hb⟩ := h'
      obtain ⟨p1, _, p2, _⟩ := hs c rfl
      obtain ⟨q1, _, q2, _⟩ := hs' c' rfl
      have l1 := hb c h.1
      have l2 := h.2 c0 hc0
      have l3 : c'.1 * c.2 ≤ c.1 * c'.2 := by
        rw [e1, e2] at l2
        refine Nat.le_of_mul_le_mul_right ?_ hg
        calc c'.1 * c.2 * g = c'.1 * g * c.2 := Nat.mul_right_comm _ _ _
          _ ≤ c.1 * (c'.2 * g) := l2
          _ = c.1 * c'.2 * g := (Nat.mul_assoc _ _ _).symm
      have l4 : c.1 * c'.2 = c'.1 * c.2 := Nat.le_antisymm l1 l3
      have hdv : c'.1 ∣ c.1 := Nat.Coprime.dvd_of_dvd_mul_right (show Nat.Coprime c'.1 c'.2 by rw [Nat.coprime_comm]; exact hco) ⟨c.2, l4⟩
      obtain ⟨k, hk⟩ := hdv
      have hc2 : c.2 = c'.2 * k := by
        refine (Nat.eq_of_mul_eq_mul_left q1 ?_)
        rw [← l4, hk, Nat.mul_assoc, Nat.mul_comm k]
      have hkp : 0 < k := by
        rcases Nat.eq_zero_or_pos k with h0 | h0
        · rw [h0, Nat.mul_zero] at hk; omega
        · exact h0
      have hgc : Nat.gcd c.2 c.1 = k := by
        rw [hk, hc2, Nat.mul_comm c'.2, Nat.mul_comm c'.1, Nat.gcd_mul_left, hco, Nat.mul_one]
      show (if x2 = 0 then nI (c.1 / Nat.gcd c.2 c.1) else nI (c.2 / Nat.gcd c.2 c.1)) = if x2 = 0 then nI c'.1 else nI c'.2
      rw [hgc, hk, hc2, Nat.mul_div_cancel _ hkp, Nat.mul_div_cancel _ hkp]
end
