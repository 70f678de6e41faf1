/-! THE ROW OF PRICES: what trades would gain -/
def zI (z : Int) : Int32 := Int32.ofInt z
theorem zI_add (a b : Int) : zI a + zI b = zI (a + b) := (Int32.ofInt_add a b).symm
theorem zI_sub (a b : Int) : zI a - zI b = zI (a - b) := (Int32.ofInt_sub a b).symm
theorem zI_n (n : Nat) : nI n = zI n := rfl
theorem zI_toInt {z : Int} (h1 : -1000000 ≤ z) (h2 : z ≤ 1000000) : (zI z).toInt = z := Int32.toInt_ofInt_of_le (by omega) (by omega)
theorem zlt {a b : Int} (ha : -1000000 ≤ a ∧ a ≤ 1000000) (hb : -1000000 ≤ b ∧ b ≤ 1000000) : (zI a < zI b) = (a < b) := propext (by rw [Int32.lt_iff_toInt_lt, zI_toInt ha.1 ha.2, zI_toInt hb.1 hb.2])
theorem zle {a b : Int} (ha : -1000000 ≤ a ∧ a ≤ 1000000) (hb : -1000000 ≤ b ∧ b ≤ 1000000) : (zI a ≤ zI b) = (a ≤ b) := propext (by rw [Int32.le_iff_toInt_le, zI_toInt ha.1 ha.2, zI_toInt hb.1 hb.2])
theorem zeq {a b : Int} (ha : -1000000 ≤ a ∧ a ≤ 1000000) (hb : -1000000 ≤ b ∧ b ≤ 1000000) : (zI a = zI b) = (a = b) := propext ⟨fun h => by rw [← zI_toInt ha.1 ha.2, ← zI_toInt hb.1 hb.2, h], fun h => by rw [h]⟩
def zmax (a b : Int) : Int := if a < b then b else a
theorem zmax_l (a b : Int) : a ≤ zmax a b := by unfold zmax; split <;> omega
theorem zmax_r (a b : Int) : b ≤ zmax a b := by unfold zmax; split <;> omega
theorem zmax_c {a b c : Int} (h1 : a ≤ c) (h2 : b ≤ c) : zmax a b ≤ c := by unfold zmax; split <;> omega
theorem zmax_i {a b : Int} (ha : -1000000 ≤ a ∧ a ≤ 1000000) (hb : -1000000 ≤ b ∧ b ≤ 1000000) : (if zI a < zI b then zI b else zI a) = zI (zmax a b) := by
  unfold zmax
  by_cases h : a < b
  · rw [if_pos h, if_pos (by rw [zlt ha hb]; exact h)]
  · rw [if_neg h, if_neg (by rw [zlt ha hb]; exact h)]
theorem zmax_j {a b : Int} (ha : -1000000 ≤ a ∧ a ≤ 1000000) (hb : -1000000 ≤ b ∧ b ≤ 1000000) : (if zI a ≤ zI b then zI b else zI a) = zI (zmax a b) := by
  unfold zmax
  by_cases h : a < b
  · rw [if_pos h, if_pos (by rw [zle ha hb]; omega)]
  · rw [if_neg h]
    by_cases h' : a = b
    · rw [h', if_pos (Int32.le_refl _)]
    · rw [if_neg (by rw [zle ha hb]; omega)]
/-- the class's: gains and holds behind n prices -/
def tdG (p : Nat → Int) : Nat → Nat → Int × Int
  | _, 0 => (0, -1000)
  | 0, n + 1 => (0, (tdG p 0 n).2)
  | k + 1, n + 1 => (zmax (tdG p (k + 1) n).1 ((tdG p (k + 1) n).2 + p n), zmax (tdG p (k + 1) n).2 ((tdG p k n).1 - p n))
theorem tdG_0 (p : Nat → Int) : ∀ n, (tdG p 0 n).1 = 0
  | 0 => by unfold tdG; rfl
  | n + 1 => by unfold tdG; rfl
theorem tdG_z (p : Nat → Int) (k : Nat) : tdG p k 0 = (0, -1000) := by cases k <;> (unfold tdG; rfl)
theorem tdG_1 (p : Nat → Int) (k n : Nat) : (tdG p (k + 1) (n + 1)).1 = zmax (tdG p (k + 1) n).1 ((tdG p (k + 1) n).2 + p n) := by rw [tdG]
theorem tdG_2 (p : Nat → Int) (k n : Nat) : (tdG p (k + 1) (n + 1)).2 = zmax (tdG p (k + 1) n).2 ((tdG p k n).1 - p n) := by rw [tdG]
theorem tdG_mn (p : Nat → Int) (k n : Nat) : (tdG p k n).1 ≤ (tdG p k (n + 1)).1 := by
  cases k with
  | zero => rw [tdG_0, tdG_0]; exact Int.le_refl _
  | succ k => rw [tdG_1]; exact zmax_l _ _
theorem tdG_hn (p : Nat → Int) (k n : Nat) : (tdG p (k + 1) n).2 ≤ (tdG p (k + 1) (n + 1)).2 := by rw [tdG_2]; exact zmax_l _ _
theorem tdG_hm (p : Nat → Int) (k f : Nat) : ∀ m, (tdG p (k + 1) f).2 ≤ (tdG p (k + 1) (f + m)).2
  | 0 => Int.le_refl _
  | m + 1 => Int.le_trans (tdG_hm p k f m) (tdG_hn p k (f + m))
theorem tdG_mk (p : Nat → Int) : ∀ k n, (tdG p k n).1 ≤ (tdG p (k + 1) n).1
  | 0, 0 => by rw [tdG_z, tdG_z]; exact Int.le_refl _
  | 0, n + 1 => by
    have := tdG_mk p 0 n
    have h1 := tdG_mn p 1 n
    rw [tdG_0] at this ⊢
    exact Int.le_trans this h1
  | k + 1, n => by
    have key : ∀ n, (tdG p (k + 1) n).1 ≤ (tdG p (k + 2) n).1 ∧ (tdG p (k + 1) n).2 ≤ (tdG p (k + 2) n).2 := by
      intro n
      induction n with
      | zero => rw [tdG_z, tdG_z]; exact ⟨Int.le_refl _, Int.le_refl _⟩
      | succ n ih =>
        have h1 := tdG_mk p k n
        rw [tdG_1, tdG_1, tdG_2, tdG_2]
        refine ⟨zmax_c (Int.le_trans ih.1 (zmax_l _ _)) (Int.le_trans (Int.add_le_add_right ih.2 _) (zmax_r _ _)), zmax_c (Int.le_trans ih.2 (zmax_l _ _)) (Int.le_trans (Int.sub_le_sub_right h1 _) (zmax_r _ _))⟩
    exact (key n).1
theorem tdG_b (p : Nat → Int) (hp : ∀ k, 1 ≤ p k ∧ p k ≤ 99) : ∀ k n, 0 ≤ (tdG p k n).1 ∧ (tdG p k n).1 ≤ 99 * n ∧ -1000 ≤ (tdG p k n).2 ∧ (tdG p k n).2 ≤ 99 * n
  | k, 0 => by rw [tdG_z]; exact ⟨by decide, by decide, by decide, by decide⟩
  | 0, n + 1 => by
    have := tdG_b p hp 0 n
    have e : tdG p 0 (n + 1) = (0, (tdG p 0 n).2) := by rw [tdG]
    rw [e]
    simp only
    omega
  | k + 1, n + 1 => by
    have h1 := tdG_b p hp (k + 1) n
    have h2 := tdG_b p hp k n
    have h3 := hp n
    rw [tdG_1, tdG_2]
    refine ⟨Int.le_trans h1.1 (zmax_l _ _), zmax_c (by omega) (by omega), Int.le_trans h1.2.2.1 (zmax_l _ _), zmax_c (by omega) (by omega)⟩
/-- the reference's: a fold of the greater -/
def mxF (s : Int) (φ : Nat → Int) : Nat → Int := itr (fun f m => zmax m (φ f)) s
theorem mxF_s (s : Int) (φ : Nat → Int) (n : Nat) : mxF s φ (n + 1) = zmax (mxF s φ n) (φ n) := rfl
theorem mxF_ge (s : Int) (φ : Nat → Int) : ∀ n, s ≤ mxF s φ n ∧ ∀ f, f < n → φ f ≤ mxF s φ n
  | 0 => ⟨Int.le_refl _, fun f hf => absurd hf (by omega)⟩
  | n + 1 => by
    obtain ⟨h1, h2⟩ := mxF_ge s φ n
    rw [mxF_s]
    refine ⟨Int.le_trans h1 (zmax_l _ _), fun f hf => ?_⟩
    by_cases h : f = n
    · subst h; exact zmax_r _ _
    · exact Int.le_trans (h2 f (by omega)) (zmax_l _ _)
theorem mxF_le (s : Int) (φ : Nat → Int) (b : Int) : ∀ n, s ≤ b → (∀ f, f < n → φ f ≤ b) → mxF s φ n ≤ b
  | 0, h, _ => h
  | n + 1, h, h2 => by
    rw [mxF_s]
    exact zmax_c (mxF_le s φ b n h (fun f hf => h2 f (by omega))) (h2 n (by omega))
theorem tdG_h (p : Nat → Int) (k : Nat) : ∀ n f, f < n → (tdG p k f).1 - p f ≤ (tdG p (k + 1) n).2
  | 0, f, h => absurd h (by omega)
  | n + 1, f, h => by
    rw [tdG_2]
    by_cases h' : f = n
    · subst h'; exact zmax_r _ _
    · exact Int.le_trans (tdG_h p k n f (by omega)) (zmax_l _ _)
theorem td_eq (p : Nat → Int) (hp : ∀ k, 1 ≤ p k ∧ p k ≤ 99) (k n : Nat) : mxF (tdG p (k + 1) n).1 (fun f => p n - p f + (tdG p k (f + 1)).1) n = (tdG p (k + 1) (n + 1)).1 := by
  refine Int.le_antisymm ?_ ?_
  · refine mxF_le _ _ _ n (tdG_mn p (k + 1) n) (fun f hf => ?_)
    show p n - p f + (tdG p k (f + 1)).1 ≤ _
    have h1 := tdG_h p k n f hf
    have h2 : (tdG p (k + 1) n).2 + p n ≤ (tdG p (k + 1) (n + 1)).1 := by rw [tdG_1]; exact zmax_r _ _
    cases k with
    | zero =>
      rw [tdG_0] at h1 ⊢
      omega
    | succ k =>
      rw [tdG_1]
      have h3 := tdG_hm p k f (n - f)
      rw [show f + (n - f) = n by omega] at h3
      have h4 : (tdG p (k + 1) n).2 + p n ≤ (tdG p (k + 1) (n + 1)).1 := by rw [tdG_1]; exact zmax_r _ _
      have h5 := tdG_mk p (k + 1) (n + 1)
      unfold zmax
      split <;> omega
  · rw [tdG_1]
    obtain ⟨g1, g2⟩ := mxF_ge (tdG p (k + 1) n).1 (fun f => p n - p f + (tdG p k (f + 1)).1) n
    refine zmax_c g1 ?_
    have hold : ∀ m, m ≤ n → (tdG p (k + 1) m).2 + p n ≤ mxF (tdG p (k + 1) n).1 (fun f => p n - p f + (tdG p k (f + 1)).1) n := by
      intro m
      induction m with
      | zero =>
        intro _
        rw [tdG_z]
        have := (tdG_b p hp (k + 1) n).1
        have := hp n
        show (-1000 : Int) + p n ≤ _
        omega
      | succ m ih =>
        intro hm
        rw [tdG_2]
        have a1 := ih (by omega)
        have a2 : p n - p m + (tdG p k (m + 1)).1 ≤ _ := g2 m (by omega)
        have a3 := tdG_mn p k m
        unfold zmax
        split <;> omega
    exact hold n (Nat.le_refl _)
