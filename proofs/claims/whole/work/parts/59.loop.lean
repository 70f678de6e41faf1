/-! LOOPS, in general -/
theorem li (n : Nat) : (OfNat.ofNat n : Int32) = nI (OfNat.ofNat n) := rfl
theorem l_up (N : Nat) (P : Nat → Prop) (hN : P N) (hs : ∀ k, k < N → P (k + 1) → P k) : P 0 := by
  induction N with
  | zero => exact hN
  | succ N ih => exact ih (hs N (by omega) hN) (fun k hk => hs k (by omega))
theorem l_up2 (a N : Nat) (P : Nat → Prop) (haN : a ≤ N) (hN : P N) (hs : ∀ k, a ≤ k → k < N → P (k + 1) → P k) : P a := by
  obtain ⟨m, rfl⟩ : ∃ m, N = a + m := ⟨N - a, by omega⟩
  have := l_up m (fun k => P (a + k)) hN (fun k hk => hs (a + k) (by omega) (by omega))
  exact this
/-- downward: from a to b -/
theorem l_dn (a : Nat) (P : Nat → Prop) (h0 : P 0) (hs : ∀ k, k < a → P k → P (k + 1)) : P a := by
  induction a with
  | zero => exact h0
  | succ a ih => exact hs a (by omega) (ih (fun k hk => hs k (by omega)))
def sI (f : Nat → Int32) : Nat → Int32
  | 0 => 0
  | n + 1 => sI f n + f n
def itr {α : Type} (f : Nat → α → α) (s : α) : Nat → α
  | 0 => s
  | n + 1 => f n (itr f s n)
theorem itr_s {α : Type} (f : Nat → α → α) (s : α) (n : Nat) : itr f s (n + 1) = f n (itr f s n) := rfl
theorem itr_congr {α : Type} (f g : Nat → α → α) (s : α) : ∀ n, (∀ k, k < n → ∀ x, f k x = g k x) → itr f s n = itr g s n
  | 0, _ => rfl
  | n + 1, h => by rw [itr_s, itr_s, itr_congr f g s n (fun k hk => h k (by omega)), h n (by omega)]
theorem sI_congr (f g : Nat → Int32) : ∀ n, (∀ k, k < n → f k = g k) → sI f n = sI g n
  | 0, _ => rfl
  | n + 1, h => by
    show sI f n + f n = sI g n + g n
    rw [sI_congr f g n (fun k hk => h k (by omega)), h n (by omega)]
theorem sub1 {a : Nat} (h : 1 ≤ a) : nI a - 1 = nI (a - 1) := pk_sub (b := 1) h
theorem not_le' {a b : Int32} (h : a < b) : ¬ b ≤ a := Int32.not_le.mpr h
theorem not_lt' {a b : Int32} (h : a ≤ b) : ¬ b < a := Int32.not_lt.mpr h
theorem le_of' {a b : Int32} (h : ¬ b < a) : a ≤ b := Int32.not_lt.mp h
theorem lt_of' {a b : Int32} (h : ¬ b ≤ a) : a < b := Int32.not_le.mp h
/-- a number between bounds, as a natural one -/
theorem in_ex {x : Int32} {lo hi : Nat} (h1 : ¬ x < nI lo) (h2 : ¬ nI hi < x) (hh : hi < 2147483647) (hl : lo < 2147483648) : ∃ k, x = nI k ∧ lo ≤ k ∧ k ≤ hi := by
  rcases pk_ix x (n := hi + 1) (by omega) with h | h | ⟨j, hj, rfl⟩
  · exact absurd (Int32.lt_of_lt_of_le h (by have : nI 0 ≤ nI lo := (nI_leI (by omega) (by omega)).mpr (by omega); exact this)) h1
  · exfalso
    apply h2
    exact Int32.lt_of_lt_of_le ((nI_ltI (by omega) (by omega)).mpr (by omega)) h
  · refine ⟨j, rfl, ?_, by omega⟩
    rw [nI_ltI (by omega) (by omega)] at h1
    omega
