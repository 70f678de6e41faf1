section
/-! MONEY THAT TURNS ROUND -/
theorem bit_01 (y : Int32) : (y &&& 1) = 0 ∨ (y &&& 1) = 1 := by
  cases h : bt y 0 with
  | true => exact Or.inr (by rw [and_1]; exact h)
  | false =>
    refine Or.inl (b_ext fun i hi => ?_)
    rw [b_and, bt_1 i hi, b_0]
    by_cases e : i = 0
    · rw [e, h]; rfl
    · rw [decide_eq_false e, Bool.and_false]
def two (M : am_M) (a i j : Nat) (u v : Int32) : am_M := am_up (am_up M a i u) a j v
theorem two_1 (M : am_M) (a : Nat) {i j : Nat} (u v : Int32) (h : i ≠ j) : two M a i j u v a i = u := by
  unfold two
  rw [up_same, upd_ne _ _ h, up_same, upd_same]
theorem two_2 (M : am_M) (a i j : Nat) (u v : Int32) : two M a i j u v a j = v := by
  unfold two
  rw [up_same, upd_same]
theorem two_ne (M : am_M) {a b : Nat} (i j : Nat) (u v : Int32) (h : b ≠ a) : two M a i j u v b = M b := by
  unfold two
  rw [up_ne _ _ _ h, up_ne _ _ _ h]
theorem two_up (M : am_M) (a i j : Nat) (u v u' v' : Int32) : am_up (am_up (two M a i j u v) a i u') a j v' = two M a i j u' v' := by
  unfold two
  funext b k
  by_cases hb : b = a
  · subst hb
    rw [up_same, up_same, up_same, up_same, up_same, up_same]
    simp only [upd_at]
    by_cases h1 : k = j
    · rw [if_pos h1, if_pos h1]
    · rw [if_neg h1, if_neg h1]
      by_cases h2 : k = i
      · rw [if_pos h2, if_pos h2]
        try rw [if_neg h1]
      · rw [if_neg h2, if_neg h2, if_neg h1, if_neg h2]
  · rw [up_ne _ _ _ hb, up_ne _ _ _ hb, up_ne _ _ _ hb, up_ne _ _ _ hb, up_ne _ _ _ hb, up_ne _ _ _ hb]
def eA : Option (Nat × Nat) → Int32
  | none => -1
  | some c => nI c.1
def eB (z : Int32) : Option (Nat × Nat) → Int32
  | none => z
  | some c => nI c.2
def Best (st : Option (Nat × Nat)) (S : Nat × Nat → Prop) : Prop := match st with
  | none => ∀ c, ¬ S c
  | some c => S c ∧ ∀ c', S c' → c'.1 * c.2 ≤ c.1 * c'.2
def SBd (st : Option (Nat × Nat)) : Prop := ∀ c, st = some c → 1 ≤ c.1 ∧ c.1 ≤ 6561 ∧ 1 ≤ c.2 ∧ c.2 ≤ 6561
theorem Best_ext {st : Option (Nat × Nat)} {S S' : Nat × Nat → Prop} (h : ∀ c, S c ↔ S' c) (hb : Best st S) : Best st S' := by
  have : S = S' := funext fun c => propext (h c)
  rw [← this]
  exact hb
theorem frac_tr {a b c d e f : Nat} (hd : 0 < d) (h1 : a * d ≤ c * b) (h2 : c * f ≤ e * d) : a * f ≤ e * b := by
  have h3 : (a * d) * f ≤ (c * b) * f := Nat.mul_le_mul_right f h1
  have h4 : (c * f) * b ≤ (e * d) * b := Nat.mul_le_mul_right b h2
  have h5 : (a * f) * d ≤ (e * b) * d := by
    calc (a * f) * d = (a * d) * f := by rw [Nat.mul_right_comm]
      _ ≤ (c * b) * f := h3
      _ = (c * f) * b := by rw [Nat.mul_right_comm]
      _ ≤ (e * d) * b := h4
      _ = (e * b) * d := by rw [Nat.mul_right_comm]
  exact Nat.le_of_mul_le_mul_right h5 hd
theorem mul_6561 {a b : Nat} (ha : a ≤ 6561) (hb : b ≤ 6561) : a * b ≤ 43046721 := Nat.mul_le_mul ha hb
theorem x_cmp {dd nS n d : Nat} {st : Option (Nat × Nat)} {S : Nat × Nat → Prop} {M : am_M} {Q : Option Value → am_H → Prop} (hb : Best st S) (hs : SBd st) (hn : 1 ≤ n ∧ n ≤ 6561) (hd : 1 ≤ d ∧ d ≤ 6561) (hQ : ∀ st', Best st' (fun c => S c ∨ c = (n, d)) → SBd st' → Q none (hp nS (two M 54 5 6 (eA st') (eB (-1) st')))) : am_Wp dd 5 0 [.ref 54, .int (nI n), .int (nI d)] [] (hp nS (two M 54 5 6 (eA st) (eB (-1) st))) Q := by
  have hnew : SBd (some (n, d)) := fun c hc => by cases hc; exact ⟨hn.1, hn.2, hd.1, hd.2⟩
  rw [c_5, two_1 _ _ _ _ (by decide), two_2, two_up]
  cases st with
  | none =>
    rw [if_pos (show eA none = -1 from rfl)]
    refine hQ (some (n, d)) ⟨Or.inr rfl, fun c' hc' => ?_⟩ hnew
    rcases hc' with hc' | hc'
    · exact absurd hc' (hb c')
    · rw [hc']; exact Nat.le_refl _
  | some c =>
    obtain ⟨h1, h2, h3, h4⟩ := hs c rfl
    have m1 := mul_6561 hn.2 h4
    have m2 := mul_6561 h2 hd.2
    rw [if_neg (show ¬ eA (some c) = -1 from nI_m1 (by omega))]
    by_cases hle : n * c.2 ≤ c.1 * d
    · rw [if_pos (show nI n * eB (-1) (some c) ≤ eA (some c) * nI d by rw [eA, eB, pk_mul, pk_mul, le_n (by omega) (by omega)]; exact hle)]
      refine hQ (some c) ⟨Or.inl hb.1, fun c' hc' => ?_⟩ hs
      rcases hc' with hc' | hc'
      · exact hb.2 c' hc'
      · rw [hc']; exact hle
    · rw [if_neg (show ¬ nI n * eB (-1) (some c) ≤ eA (some c) * nI d by rw [eA, eB, pk_mul, pk_mul, le_n (by omega) (by omega)]; exact hle)]
      refine hQ (some (n, d)) ⟨Or.inr rfl, fun c' hc' => ?_⟩ hnew
      rcases hc' with hc' | hc'
      · exact frac_tr h3 (hb.2 c' hc') (Nat.le_of_lt (Nat.lt_of_not_le hle))
      · rw [hc']; exact Nat.le_refl _
/-- a way over these moneys: what it comes to -/
def rv (r : Nat → Nat) : Nat → List Nat → Nat × Nat → Option (Nat × Nat)
  | _, [], nd => some nd
  | here, t :: ts, nd => if r (4 * here + t) = 0 then none else rv r t ts (nd.1 * (r (4 * here + t) / 10), nd.2 * (r (4 * here + t) % 10))
def pth (home : Nat) : Nat → (Nat → Bool) → List (List Nat)
  | 0, _ => []
  | f + 1, g => [0, 1, 2, 3].flatMap (fun j => if j = home then [[j]] else if g j = true then [] else (pth home f (fun i => decide (i = j) || g i)).map (fun p => j :: p))
def seg (home f : Nat) (g : Nat → Bool) (j : Nat) : List (List Nat) := if j = home then [[j]] else if g j = true then [] else (pth home f (fun i => decide (i = j) || g i)).map (fun p => j :: p)
theorem pth_s (home f : Nat) (g : Nat → Bool) : pth home (f + 1) g = [0, 1, 2, 3].flatMap (seg home f g) := rfl
def cdS (r : Nat → Nat) (home f : Nat) (g : Nat → Bool) (here : Nat) (nd : Nat × Nat) (j : Nat) (c : Nat × Nat) : Prop := ∃ p, p ∈ seg home f g j ∧ rv r here p nd = some c
theorem cdS_all (r : Nat → Nat) (home f : Nat) (g : Nat → Bool) (here : Nat) (nd c : Nat × Nat) : (∃ p, p ∈ pth home (f + 1) g ∧ rv r here p nd = some c) ↔ ∃ j, 0 ≤ j ∧ j < 4 ∧ cdS r home f g here nd j c := by
  rw [pth_s]
  constructor
  · rintro ⟨p, hp, hv⟩
    rw [List.mem_flatMap] at hp
    obtain ⟨j, hj, hp⟩ := hp
    refine ⟨j, by omega, ?_, p, hp, hv⟩
    simp at hj
    omega
  · rintro ⟨j, _, hj, p, hp, hv⟩
    refine ⟨p, ?_, hv⟩
    rw [List.mem_flatMap]
    refine ⟨j, ?_, hp⟩
    have : j = 0 ∨ j = 1 ∨ j = 2 ∨ j = 3 := by omega
    simp
    exact this
theorem seg_hd {home f : Nat} {g : Nat → Bool} {j : Nat} {p : List Nat} (h : p ∈ seg home f g j) : ∃ ts, p = j :: ts := by
  unfold seg at h
  by_cases h1 : j = home
  · rw [if_pos h1] at h
    exact ⟨[], by simpa using h⟩
  · rw [if_neg h1] at h
    by_cases h2 : g j = true
    · rw [if_pos h2] at h; cases h
    · rw [if_neg h2, List.mem_map] at h
      obtain ⟨ts, _, h⟩ := h
      exact ⟨ts, h.symm⟩
theorem cdS_0 {r : Nat → Nat} {home f : Nat} {g : Nat → Bool} {here : Nat} {nd : Nat × Nat} {j : Nat} (h : r (4 * here + j) = 0) (c : Nat × Nat) : ¬ cdS r home f g here nd j c := by
  rintro ⟨p, hp, hv⟩
  obtain ⟨ts, rfl⟩ := seg_hd hp
  rw [rv, if_pos h] at hv
  cases hv
theorem cdS_home {r : Nat → Nat} {home f : Nat} {g : Nat → Bool} {here : Nat} {nd : Nat × Nat} (h : ¬ r (4 * here + home) = 0) (c : Nat × Nat) : cdS r home f g here nd home c ↔ c = (nd.1 * (r (4 * here + home) / 10), nd.2 * (r (4 * here + home) % 10)) := by
  unfold cdS seg
  rw [if_pos rfl]
  constructor
  · rintro ⟨p, hp, hv⟩
    have : p = [home] := by simpa using hp
    subst this
    rw [rv, if_neg h, rv] at hv
    cases hv
    rfl
  · rintro rfl
    exact ⟨[home], by simp, by rw [rv, if_neg h, rv]⟩
theorem cdS_gone {r : Nat → Nat} {home f : Nat} {g : Nat → Bool} {here : Nat} {nd : Nat × Nat} {j : Nat} (h1 : ¬ j = home) (h : g j = true) (c : Nat × Nat) : ¬ cdS r home f g here nd j c := by
  rintro ⟨p, hp, hv⟩
  unfold seg at hp
  rw [if_neg h1, if_pos h] at hp
  cases hp
theorem cdS_rec {r : Nat → Nat} {home f : Nat} {g : Nat → Bool} {here : Nat} {nd : Nat × Nat} {j : Nat} (h1 : ¬ j = home) (h : g j = false) (h0 : ¬ r (4 * here + j) = 0) (c : Nat × Nat) : cdS r home f g here nd j c ↔ ∃ p, p ∈ pth home f (fun i => decide (i = j) || g i) ∧ rv r j p (nd.1 * (r (4 * here + j) / 10), nd.2 * (r (4 * here + j) % 10)) = some c := by
  unfold cdS seg
  rw [if_neg h1, if_neg (by rw [h]; decide)]
  constructor
  · rintro ⟨p, hp, hv⟩
    rw [List.mem_map] at hp
    obtain ⟨ts, hts, rfl⟩ := hp
    rw [rv, if_neg h0] at hv
    exact ⟨ts, hts, hv⟩
  · rintro ⟨ts, hts, hv⟩
    refine ⟨j :: ts, List.mem_map.mpr ⟨ts, hts, rfl⟩, ?_⟩
    rw [rv, if_neg h0]
    exact hv
def cnt (g : Nat → Bool) : Nat := (bif g 0 then 0 else 1) + (bif g 1 then 0 else 1) + (bif g 2 then 0 else 1) + (bif g 3 then 0 else 1)
theorem cnt_s {g : Nat → Bool} : ∀ {t : Nat}, t < 4 → g t = false → cnt (fun i => decide (i = t) || g i) + 1 = cnt g
  | 0, _, h => by simp [cnt, h]; omega
  | 1, _, h => by simp [cnt, h]; omega
  | 2, _, h => by simp [cnt, h]; omega
  | 3, _, h => by simp [cnt, h]
theorem mul4 (a b : Nat) : nI a * 4 + nI b = nI (4 * a + b) := by
  have : nI a * 4 = nI (4 * a) := by rw [Nat.mul_comm]; exact pk_mul a 4
  rw [this, nI_add]
theorem mul4' (a b : Nat) : (4 : Int32) * nI a + nI b = nI (4 * a + b) := by
  have : (4 : Int32) * nI a = nI (4 * a) := pk_mul 4 a
  rw [this, nI_add]
/-- rates: none, or n by d -/
def rts (r : Nat → Nat) : Prop := ∀ k, k < 16 → r k ≤ 99 ∧ (¬ r k = 0 → 1 ≤ r k / 10 ∧ 1 ≤ r k % 10)
theorem nine {n x f : Nat} (hn : n * 9 ^ (f + 1) ≤ 6561) (hx : x ≤ 9) : n * x * 9 ^ f ≤ 6561 := by
  have h1 : n * x * 9 ^ f ≤ n * 9 * 9 ^ f := Nat.mul_le_mul_right _ (Nat.mul_le_mul_left n hx)
  have h2 : n * 9 * 9 ^ f = n * 9 ^ (f + 1) := by rw [Nat.pow_succ, Nat.mul_assoc, Nat.mul_comm 9]
  omega
theorem nine_le {n f : Nat} (hn : n * 9 ^ f ≤ 6561) : n ≤ 6561 := by
  have : n * 1 ≤ n * 9 ^ f := Nat.mul_le_mul_left n (Nat.pow_pos (by omega))
  omega
theorem ge1_mul {a b : Nat} (h1 : 1 ≤ a) (h2 : 1 ≤ b) : 1 ≤ a * b := Nat.mul_pos h1 h2
theorem x_rloop {D nS home here n d f : Nat} {gone : Int32} {M : am_M} {Q : Option Value → am_H → Prop} (r : Nat → Nat) (g : Nat → Bool) (hr : ∀ k, k < 16 → M 55 k = nI (r k)) (hz : rts r) (hh : home < 4) (hhe : here < 4) (hg : ∀ j, j < 4 → bt gone j = g j) (h1n : 1 ≤ n) (h1d : 1 ≤ d) (hn : n * 9 ^ (f + 1) ≤ 6561) (hd : d * 9 ^ (f + 1) ≤ 6561)
    (rec : ∀ (j : Nat) (st : Option (Nat × Nat)) (S : Nat × Nat → Prop) (Q : Option Value → am_H → Prop), j < 4 → ¬ j = home → g j = false → ¬ r (4 * here + j) = 0 → Best st S → SBd st → (∀ st', Best st' (fun c => S c ∨ cdS r home f g here (n, d) j c) → SBd st' → Q none (hp nS (two M 54 5 6 (eA st') (eB (-1) st')))) → am_Wp D 4 0 [.ref 54, .int (nI home), .int (nI j), .int (gone ||| ((1 : Int32) <<< (nI j &&& 31))), .int (nI (n * (r (4 * here + j) / 10))), .int (nI (d * (r (4 * here + j) % 10))), .retAddr 0, .retAddr 0, .retAddr 0, .retAddr 0] [] (hp nS (two M 54 5 6 (eA st) (eB (-1) st))) Q) :
    ∀ (m t : Nat) (st : Option (Nat × Nat)) (S : Nat × Nat → Prop) (z7 z8 z9 : Value), t + m = 4 → Best st S → SBd st → (∀ st', Best st' (fun c => S c ∨ ∃ j, t ≤ j ∧ j < 4 ∧ cdS r home f g here (n, d) j c) → SBd st' → Q none (hp nS (two M 54 5 6 (eA st') (eB (-1) st')))) → am_Wp (D + 1) 4 3 [.ref 54, .int (nI home), .int (nI here), .int gone, .int (nI n), .int (nI d), .int (nI t), z7, z8, z9] [] (hp nS (two M 54 5 6 (eA st) (eB (-1) st))) Q := by
  intro m
  induction m with
  | zero =>
    intro t st S z7 z8 z9 ht hb hs hQ
    have : t = 4 := by omega
    subst this
    rw [b_4_3, if_pos (by decide), b_4_99]
    refine hQ st (Best_ext (fun c => ⟨Or.inl, fun h => ?_⟩) hb) hs
    rcases h with h | ⟨j, h1, h2, _⟩
    · exact h
    · omega
  | succ m ih =>
    intro t st S z7 z8 z9 ht hb hs hQ
    have hk : 4 * here + t < 16 := by omega
    obtain ⟨h99, hpos⟩ := hz _ hk
    have e55 : ∀ u v, two M 54 5 6 u v 55 = M 55 := fun u v => two_ne _ _ _ _ _ (by decide)
    have go : ∀ (st' : Option (Nat × Nat)) (S' : Nat × Nat → Prop) (x7 : Int32) (z8 z9 : Value), Best st' S' → SBd st' → (∀ c, S' c ↔ (S c ∨ cdS r home f g here (n, d) t c)) → am_Wp (D + 1) 4 93 [.ref 54, .int (nI home), .int (nI here), .int gone, .int (nI n), .int (nI d), .int (nI t), .int x7, z8, z9] [] (hp nS (two M 54 5 6 (eA st') (eB (-1) st'))) Q := by
      intro st' S' x7 z8 z9 hb' hs' hS
      rw [b_4_93, nI_1]
      refine ih (t + 1) st' S' _ _ _ (by omega) hb' hs' (fun st2 hb2 hs2 => hQ st2 (Best_ext (fun c => ?_) hb2) hs2)
      rw [hS c]
      constructor
      · rintro ((h | h) | ⟨j, h1, h2, h3⟩)
        · exact Or.inl h
        · exact Or.inr ⟨t, Nat.le_refl _, by omega, h⟩
        · exact Or.inr ⟨j, by omega, h2, h3⟩
      · rintro (h | ⟨j, h1, h2, h3⟩)
        · exact Or.inl (Or.inl h)
        · by_cases e : j = t
          · subst e; exact Or.inl (Or.inr h3)
          · exact Or.inr ⟨j, by omega, h2, h3⟩
    rw [b_4_3, if_neg (by rw [li, le_n (by omega) (by omega)]; omega), b_4_9 (by rw [mul4]; exact in_n hk (by omega)), mul4, cl_n (by omega), e55, hr _ hk]
    by_cases h0 : r (4 * here + t) = 0
    · rw [if_neg (fun z => z (by rw [h0]; rfl)), b_4_27]
      exact go st S _ _ _ hb hs (fun c => ⟨Or.inl, fun h => h.elim id (fun h => absurd h (cdS_0 h0 c))⟩)
    · obtain ⟨p1, p2⟩ := hpos h0
      have q1 : r (4 * here + t) / 10 ≤ 9 := by omega
      have q2 : r (4 * here + t) % 10 ≤ 9 := by omega
      have ed : nI (r (4 * here + t)) / 10 = nI (r (4 * here + t) / 10) := pk_div (by omega) (by decide) (by decide)
      have er : nI (r (4 * here + t)) - nI (r (4 * here + t)) / 10 * 10 = nI (r (4 * here + t) % 10) := pk_rem (by omega) (by decide) (by decide)
      have n1 := nine hn q1
      have n2 := nine hd q2
      have n3 := nine_le n1
      have n4 := nine_le n2
      rw [if_pos (nI_ne0 (by omega) (by omega)), b_4_30, er, ed, pk_mul, pk_mul]
      by_cases he : t = home
      · subst he
        rw [if_neg (fun z => z rfl), b_4_56]
        refine x_cmp hb hs ⟨ge1_mul h1n p1, n3⟩ ⟨ge1_mul h1d p2, n4⟩ (fun st' hb' hs' => ?_)
        rw [am_ans_none, b_4_64]
        exact go st' _ _ _ _ hb' hs' (fun c => by rw [cdS_home h0])
      · rw [if_pos (by rw [eq_n (by omega) (by omega)]; exact he), b_4_67]
        have eb : (((gone >>> (nI t &&& 31)) &&& 1) = 0) = (g t = false) := by
          rw [← hg t (by omega)]
          have h2 := bit_get (show t < 32 by omega) gone
          have h3 : ((gone >>> (nI t &&& 31)) &&& 1) = 0 ∨ ((gone >>> (nI t &&& 31)) &&& 1) = 1 := bit_01 _
          refine propext ⟨fun h => ?_, fun h => ?_⟩
          · rw [h] at h2
            cases hx : bt gone t with
            | false => rfl
            | true => exact absurd (h2.mpr hx) (by decide)
          · rcases h3 with h3 | h3
            · exact h3
            · have := h2.mp h3
              rw [h] at this
              cases this
        cases hgt : g t with
        | true =>
          rw [if_pos (by rw [eb, hgt]; decide)]
          exact go st S _ _ _ hb hs (fun c => ⟨Or.inl, fun h => h.elim id (fun h => absurd h (cdS_gone he hgt c))⟩)
        | false =>
          rw [if_neg (fun z => z (by rw [eb]; exact hgt)), b_4_76]
          refine rec t st S _ (by omega) he hgt h0 hb hs (fun st' hb' hs' => ?_)
          rw [am_ans_none]
          exact go st' _ _ _ _ hb' hs' (fun c => Iff.rfl)
theorem x_roams {nS home : Nat} {M : am_M} (r : Nat → Nat) (hr : ∀ k, k < 16 → M 55 k = nI (r k)) (hz : rts r) (hh : home < 4) : ∀ (f dd : Nat) (g : Nat → Bool) (gone : Int32) (here n d : Nat) (st : Option (Nat × Nat)) (S : Nat × Nat → Prop) (Q : Option Value → am_H → Prop), (∀ j, j < 4 → bt gone j = g j) → cnt g ≤ f → here < 4 → 1 ≤ n → 1 ≤ d → n * 9 ^ (f + 1) ≤ 6561 → d * 9 ^ (f + 1) ≤ 6561 → Best st S → SBd st → (∀ st', Best st' (fun c => S c ∨ ∃ p, p ∈ pth home (f + 1) g ∧ rv r here p (n, d) = some c) → SBd st' → Q none (hp nS (two M 54 5 6 (eA st') (eB (-1) st')))) → am_Wp (dd + f + 1) 4 0 [.ref 54, .int (nI home), .int (nI here), .int gone, .int (nI n), .int (nI d), .retAddr 0, .retAddr 0, .retAddr 0, .retAddr 0] [] (hp nS (two M 54 5 6 (eA st) (eB (-1) st))) Q := by
  intro f
  induction f with
  | zero =>
    intro dd g gone here n d st S Q hg hc hhe h1n h1d hn hd hb hs hQ
    rw [b_4_0]
    refine x_rloop (f := 0) r g hr hz hh hhe hg h1n h1d hn hd (fun j st S Q hj _ hgj => ?_) 4 0 st S _ _ _ (by omega) hb hs (fun st' hb' hs' => hQ st' (Best_ext (fun c => by rw [cdS_all]) hb') hs')
    have := cnt_s hj hgj
    omega
  | succ f ih =>
    intro dd g gone here n d st S Q hg hc hhe h1n h1d hn hd hb hs hQ
    rw [b_4_0]
    refine x_rloop (D := dd + f + 1) (f := f + 1) r g hr hz hh hhe hg h1n h1d hn hd (fun j st S Q hj hjh hgj h0 hb hs hQ => ?_) 4 0 st S _ _ _ (by omega) hb hs (fun st' hb' hs' => hQ st' (Best_ext (fun c => by rw [cdS_all]) hb') hs')
    have hk : 4 * here + j < 16 := by omega
    obtain ⟨h99, hpos⟩ := hz _ hk
    obtain ⟨p1, p2⟩ := hpos h0
    have := cnt_s hj hgj
    refine ih dd (fun i => decide (i = j) || g i) _ j _ _ st S Q (fun i hi => ?_) (by omega) hj (ge1_mul h1n p1) (ge1_mul h1d p2) (nine hn (by omega)) (nine hd (by omega)) hb hs (fun st' hb' hs' => hQ st' (Best_ext (fun c => by rw [cdS_rec hjh hgj h0]) hb') hs')
    rw [bit_set (by omega) (by omega), hg i hi, Bool.or_comm]
def gHm (a : Nat) (i : Nat) : Bool := decide (i = a)
/-- what turns round from a -/
def rdS (r : Nat → Nat) (a : Nat) (c : Nat × Nat) : Prop := ∃ p, p ∈ pth a 4 (gHm a) ∧ rv r a p (1, 1) = some c
def rdX (st : Option (Nat × Nat)) (x2 : Int32) : Int32 := match st with
  | none => -1
  | some c => if x2 = 0 then nI (c.1 / Nat.gcd c.2 c.1) else nI (c.2 / Nat.gcd c.2 c.1)
theorem x_round {dd nS a : Nat} {x2 : Int32} {M : am_M} {Q : Option Value → am_H → Prop} (r : Nat → Nat) (hr : ∀ k, k < 16 → M 55 k = nI (r k)) (hz : rts r) (ha : a < 4) (hQ : ∀ st u v, Best st (rdS r a) → SBd st → Q (some (.int (rdX st x2))) (hp nS (two M 54 5 6 u v))) : am_Wp (dd + 5) 3 0 [.ref 54, .int (nI a), .int x2, .retAddr 0] [] (hp nS M) Q := by
  rw [b_3_0]
  refine x_roams r hr hz ha 3 dd (gHm a) _ a 1 1 none (fun _ => False) _ (fun j hj => bit_one (by omega) (by omega)) ?_ ha (by omega) (by omega) (by decide) (by decide) (fun c h => h) (fun c h => by cases h) (fun st hb hs => ?_)
  · have : ∀ a, a < 4 → cnt (gHm a) ≤ 3 := by decide
    exact this a ha
  · have hb' : Best st (rdS r a) := Best_ext (fun c => ⟨fun h => h.elim False.elim id, Or.inr⟩) hb
    rw [am_ans_none, b_3_21, two_1 _ _ _ _ (by decide)]
    cases st with
    | none =>
      rw [if_neg (fun z => z rfl), b_3_29]
      exact hQ none _ _ hb' hs
    | some c =>
      obtain ⟨h1, h2, h3, h4⟩ := hs c rfl
      have gp : 0 < Nat.gcd c.2 c.1 := Nat.gcd_pos_of_pos_left _ (by omega)
      have gl : Nat.gcd c.2 c.1 ≤ c.2 := Nat.gcd_le_left _ (by omega)
      have hne : ¬ nI (Nat.gcd c.2 c.1) = 0 := nI_ne0 gp (by omega)
      have hq := hQ (some c) (eA (some c)) (eB (-1) (some c)) hb' hs
      have e1 : two M 54 5 6 (eA (some c)) (eB (-1) (some c)) 54 5 = nI c.1 := two_1 _ _ _ _ (by decide)
      have e2 : two M 54 5 6 (eA (some c)) (eB (-1) (some c)) 54 6 = nI c.2 := two_2 _ _ _ _ _ _
      rw [if_pos (show ¬ eA (some c) = -1 from nI_m1 (by omega)), b_3_31, e1, e2, x_common (by omega) (by omega), am_ans_some, if_neg (by omega), b_3_42]
      by_cases hx : x2 = 0
      · rw [if_neg (fun z => z hx), b_3_47 hne, e1, pk_div (by omega) gp (by omega), b_3_62]
        have : rdX (some c) x2 = nI (c.1 / Nat.gcd c.2 c.1) := if_pos hx
        rw [this] at hq
        exact hq
      · rw [if_pos hx, b_3_56 hne, e2, pk_div (by omega) gp (by omega), b_3_62]
        have : rdX (some c) x2 = nI (c.2 / Nat.gcd c.2 c.1) := if_neg hx
        rw [this] at hq
        exact hq
end
