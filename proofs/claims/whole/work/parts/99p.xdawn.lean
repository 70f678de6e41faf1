section
/-! A LINE OF TEXT 1, THE PROGRAM -/
def addD (d : Dn) (da k w m : Nat) : Dn := (d.n + 1, nu d.day d.n da, nu d.kd d.n k, nu d.wo d.n w, nu d.mn d.n m)
noncomputable def lnD (K V : Nat → Nat) (L j : Nat) (dn : Dn) : Except (Nat × Nat) (Nat × Dn) := match pN K V (j + 1) 0 1000 with
  | .error e => .error e
  | .ok da => if K (j + 1 + 1) = 11 then (match pN K V (j + 1 + 1 + 1) 0 10 with | .error e => .error e | .ok w => .ok (j + 1 + 1 + 1 + 1, addD dn da 3 w 0))
    else if K (j + 1 + 1) = 17 then (match pN K V (j + 1 + 1 + 1) 0 L with | .error e => .error e | .ok w => (match pN K V (j + 1 + 1 + 1 + 1) 1 10 with | .error e => .error e | .ok m => .ok (j + 1 + 1 + 1 + 1 + 1, addD dn da 0 w m)))
    else if K (j + 1 + 1) = 18 then (match pN K V (j + 1 + 1 + 1) 0 L with | .error e => .error e | .ok w => .ok (j + 1 + 1 + 1 + 1, addD dn da 1 w 0))
    else if K (j + 1 + 1) = 19 then (match pN K V (j + 1 + 1 + 1) 0 L with | .error e => .error e | .ok w => .ok (j + 1 + 1 + 1 + 1, addD dn da 2 w 0))
    else .error (1, j + 1 + 1)
theorem x_34 {d nS n : Nat} {x1 x2 x3 x4 x5 : Int32} {M : am_M} {Q : Option Value → am_H → Prop} (hn : M 196 1 = nI n) (h : n < 16) (hQ : ∀ M', M' 196 1 = nI (n + 1) → M' 197 (5 * n) = x1 → M' 197 (5 * n + 1) = x2 → M' 197 (5 * n + 2) = x3 → M' 197 (5 * n + 3) = x4 → M' 197 (5 * n + 4) = x5 → (∀ a k, ¬ (a = 196 ∧ k = 1) → ¬ (a = 197 ∧ 5 * n ≤ k) → M' a k = M a k) → Q none (hp nS M')) : am_Wp d 34 0 [.ref 196, .int x1, .int x2, .int x3, .int x4, .int x5, .retAddr 0] [] (hp nS M) Q := by
  have a0 : nI n * 5 = nI (5 * n) := by rw [Nat.mul_comm]; exact pk_mul n 5
  have a1 : nI (5 * n) + 1 = nI (5 * n + 1) := nI_1 _
  have a2 : nI (5 * n) + 2 = nI (5 * n + 2) := nI_add _ 2
  have a3 : nI (5 * n) + 3 = nI (5 * n + 3) := nI_add _ 3
  have a4 : nI (5 * n) + 4 = nI (5 * n + 4) := nI_add _ 4
  have b := c_34 (d := d) (nS := nS) (x1 := x1) (x2 := x2) (x3 := x3) (x4 := x4) (x5 := x5) (M := M) (Q := Q)
  have u : ∀ (A : am_M) (q : Nat) (v : Int32), am_up A 197 q v 196 = A 196 := fun A q v => up_ne _ _ _ (by decide)
  simp only [u, hn, a0, a1, a2, a3, a4] at b
  rw [b (fun _ => in_n (by omega) (by omega)) (fun _ => in_n (by omega) (by omega)) (fun _ => in_n (by omega) (by omega)) (fun _ => in_n (by omega) (by omega)) (fun _ => in_n (by omega) (by omega)), if_pos (by rw [li, lt_n (by omega) (by omega)]; omega), cl_n (by omega), cl_n (by omega), cl_n (by omega), cl_n (by omega), cl_n (by omega), nI_1]
  refine hQ _ ?_ ?_ ?_ ?_ ?_ ?_ (fun a k h1 h2 => ?_)
  · rw [up_same, upd_same]
  · rw [up_pt _ _ (by omega), up_pt _ _ (by omega), up_pt _ _ (by omega), up_pt _ _ (by omega), up_pt _ _ (by omega), up_same, upd_same]
  · rw [up_pt _ _ (by omega), up_pt _ _ (by omega), up_pt _ _ (by omega), up_pt _ _ (by omega), up_same, upd_same]
  · rw [up_pt _ _ (by omega), up_pt _ _ (by omega), up_pt _ _ (by omega), up_same, upd_same]
  · rw [up_pt _ _ (by omega), up_pt _ _ (by omega), up_same, upd_same]
  · rw [up_pt _ _ (by omega), up_same, upd_same]
  · rw [up_pt _ _ (by omega), up_pt _ _ (by omega), up_pt _ _ (by omega), up_pt _ _ (by omega), up_pt _ _ (by omega), up_pt _ _ (by omega)]
end
