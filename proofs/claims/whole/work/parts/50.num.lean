/-! NUMBERS AND ROWS for what follows -/
theorem up_same (M : am_M) (a k : Nat) (v : Int32) : am_up M a k v a = upd (M a) k v := by simp [am_up, am_row]
theorem up_ne (M : am_M) {a b : Nat} (k : Nat) (v : Int32) (h : b ≠ a) : am_up M a k v b = M b := by simp [am_up, am_row, h]
theorem upd_same (f : Nat → Int32) (k : Nat) (v : Int32) : upd f k v k = v := by simp [upd]
theorem upd_ne (f : Nat → Int32) {k j : Nat} (v : Int32) (h : j ≠ k) : upd f k v j = f j := by simp [upd, h]
theorem upd_at (f : Nat → Int32) (k j : Nat) (v : Int32) : upd f k v j = if j = k then v else f j := rfl
theorem row_same {α : Type} (M : Nat → α) (a : Nat) (r : α) : am_row M a r a = r := by simp [am_row]
theorem row_ne {α : Type} (M : Nat → α) {a b : Nat} (r : α) (h : b ≠ a) : am_row M a r b = M b := by simp [am_row, h]
theorem row_row {α : Type} (M : Nat → α) (a : Nat) (r r' : α) : am_row (am_row M a r) a r' = am_row M a r' := by
  funext b
  by_cases h : b = a
  · simp [am_row, h]
  · simp [am_row, h]
theorem row_id {α : Type} (M : Nat → α) (a : Nat) : am_row M a (M a) = M := by
  funext b
  by_cases h : b = a
  · subst h; simp [am_row]
  · simp [am_row, h]
theorem row_comm {α : Type} (M : Nat → α) {a b : Nat} (r r' : α) (h : a ≠ b) : am_row (am_row M a r) b r' = am_row (am_row M b r') a r := by
  funext c
  by_cases h1 : c = a
  · subst h1; simp [am_row, h]
  · by_cases h2 : c = b
    · subst h2; simp [am_row, h1]
    · simp [am_row, h1, h2]
theorem up_row (M : am_M) (a k : Nat) (v : Int32) (r : Nat → Int32) : am_up (am_row M a r) a k v = am_row M a (upd r k v) := by
  unfold am_up
  rw [row_same, row_row]
theorem up_def (M : am_M) (a k : Nat) (v : Int32) : am_up M a k v = am_row M a (upd (M a) k v) := rfl
/-- a loop that goes by equals -/
theorem it_eq (N : Nat) (f : Nat → Prop) (h : ∀ k, k < N → f k = f (k + 1)) : f 0 = f N := by
  induction N with
  | zero => rfl
  | succ N ih => exact (ih fun k hk => h k (by omega)).trans (h N (by omega))
theorem it_eq2 (a N : Nat) (haN : a ≤ N) (f : Nat → Prop) (h : ∀ k, a ≤ k → k < N → f k = f (k + 1)) : f a = f N := by
  obtain ⟨m, rfl⟩ : ∃ m, N = a + m := ⟨N - a, by omega⟩
  induction m with
  | zero => rfl
  | succ m ih => exact (ih (by omega) fun k h1 h2 => h k h1 (by omega)).trans (h (a + m) (by omega) (by omega))
/-- literals as nI -/
theorem li_nI (n : Nat) : (OfNat.ofNat n : Int32) = nI n := rfl
theorem li_1 : (1 : Int32) = nI 1 := rfl
theorem li_0 : (0 : Int32) = nI 0 := rfl
theorem li_m1 : (-1 : Int32) = (-1 : Int32) := rfl
theorem le_n {a b : Nat} (ha : a < 2147483648) (hb : b < 2147483648) : (nI a ≤ nI b) = (a ≤ b) := propext (nI_leI ha hb)
theorem lt_n {a b : Nat} (ha : a < 2147483648) (hb : b < 2147483648) : (nI a < nI b) = (a < b) := propext (nI_ltI ha hb)
theorem eq_n {a b : Nat} (ha : a < 2147483648) (hb : b < 2147483648) : (nI a = nI b) = (a = b) := propext (nI_eq ha hb)
theorem in_n {a N : Nat} (h : a < N) (hN : N < 2147483648) : vp_in (nI a) N := vp_in_nI h hN
theorem cl_n {a : Nat} (h : a < 2147483648) : (nI a).toNatClampNeg = a := nI_clamp h
