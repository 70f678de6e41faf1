section
/-! A LINE OF TEXT 1, THE MODEL -/
def sX (a k : Nat) : Prop := (a = 205 ∧ (k = 16 ∨ k = 17 ∨ k = 18 ∨ k = 19 ∨ k = 29)) ∨ ((a = 219 ∨ a = 220) ∧ 800 ≤ k) ∨ ((a = 222 ∨ a = 223) ∧ 64 ≤ k) ∨ (a = 224 ∧ 8 ≤ k)
theorem sX_F {a k : Nat} (h : sX a k) : sF a k := by
  rcases h with h | h | h | h
  · exact Or.inl (Or.inl ⟨h.1, by have := h.2; omega⟩)
  · exact Or.inl (Or.inr (Or.inr (Or.inl h)))
  · exact Or.inr (Or.inr (Or.inl h))
  · exact Or.inr (Or.inr (Or.inr h))
def eX (M0 M : am_M) : Prop := ∀ a k, ¬ sX a k → M a k = M0 a k
theorem eX_pm {tp : Nat → Nat} {n N j : Nat} {c : CS} {M0 M1 M : am_M} (h : PM tp n N j c M1 M) (f : eX M0 M1) : eX M0 M := fun a k hk => (h.f a k (fun z => hk (z.elim Or.inl (fun z => Or.inr (Or.inl z))))).trans (f a k hk)
theorem eX_up {M0 M : am_M} (f : eX M0 M) {b q : Nat} (v : Int32) (h : ((b = 222 ∨ b = 223) ∧ 64 ≤ q) ∨ (b = 224 ∧ 8 ≤ q)) : eX M0 (am_up M b q v) := fun a k hk => by
  have hne : ¬ (a = b ∧ k = q) := fun z => hk (Or.inr (Or.inr (by rw [z.1, z.2]; exact h)))
  rw [up_pt _ _ hne]; exact f a k hk
theorem FL_x {tp : Nat → Nat} {n : Nat} {e : Nat × Nat} {M0 M1 M : am_M} (h : FM tp n e M1 M) (g : eX M0 M1) : FL tp n e M0 M := ⟨h.k, h.p, fun a k hk => (h.f a k (fun z => hk (sF_fm z))).trans (g a k (fun z => hk (sX_F z)))⟩
theorem FL_u {tp : Nat → Nat} {n : Nat} {e : Nat × Nat} {M0 M : am_M} (h : FL tp n e M0 M) {b q : Nat} (v : Int32) (hb : ((b = 222 ∨ b = 223) ∧ 64 ≤ q) ∨ (b = 224 ∧ 8 ≤ q)) : FL tp n e M0 (am_up M b q v) := ⟨(up_pt _ _ (by omega)).trans h.k, (up_pt _ _ (by omega)).trans h.p, fun a k hk => by
  have hne : ¬ (a = b ∧ k = q) := fun z => hk (Or.inr (Or.inr (by rw [z.1, z.2]; exact hb)))
  rw [up_pt _ _ hne]; exact h.f a k hk⟩
theorem TT_x {tp : Nat → Nat} {n N : Nat} {M0 M : am_M} (h : TT tp n N M0) (g : eX M0 M) : TT tp n N M := ⟨⟨by rw [g _ _ (by unfold sX; omega)]; exact h.m.n, fun k hk => by rw [g _ _ (by unfold sX; omega)]; exact h.m.t k hk, h.m.l, h.m.b, fun k hk => by rw [g _ _ (by unfold sX; omega)]; exact h.m.w k hk⟩, h.e⟩
theorem PM_u {tp : Nat → Nat} {n N j b q : Nat} {c : CS} {M1 M : am_M} (h : PM tp n N j c M1 M) (v : Int32) (hb : 222 ≤ b) : PM tp n N j c (am_up M b q v) (am_up M b q v) := ⟨AT_f h.a (fun k hk => up_pt _ _ (by omega)), h.jn, (up_pt _ _ (by omega)).trans h.u, fun i hi => (up_pt _ _ (by omega)).trans (h.op i hi), fun i hi => (up_pt _ _ (by omega)).trans (h.ar i hi), fun _ _ _ => rfl⟩
theorem PM_r {tp : Nat → Nat} {n N j : Nat} {c : CS} {M1 M : am_M} (h : PM tp n N j c M1 M) {b : Nat} (hb : 222 ≤ b) (q : Nat) : M b q = M1 b q := h.f _ _ (by omega)
/-- which kind of dawn a word is -/
def kdM (k : Nat) : Int32 := if k = 11 then 3 else if k = 17 then 0 else if k = 18 then 1 else if k = 19 then 2 else -1
theorem m_kd {d nS n N j : Nat} {tp : Nat → Nat} {c : CS} {M0 : am_M} {M : am_M} {Q : Option Value → am_H → Prop} (h : PM tp n N j c M0 M) : am_Wp (d + 1) 197 0 [.ref 205] [] (hp nS M) Q = Q (some (.int (kdM (kK tp n j)))) (hp nS M) := by
  have hat := h.a.k
  have hk38 := kK_38 tp n j
  rw [c_197]
  refine congrArg (fun v => Q (some (.int v)) (hp nS M)) ?_
  generalize kK tp n j = k at hat hk38
  unfold kdM
  by_cases c26 : k < 26
  · obtain ⟨e1, e2⟩ := hat.w c26
    rw [e1, e2]
    have : ∀ k, k < 26 → (if ¬ (¬ (2 : Int32) = 2) ∧ (¬ (¬ nI k = (11 : Int32))) then 3 else (if ¬ (2 : Int32) = 2 then (-1) else (if ¬ (nI k < (17 : Int32)) ∧ (¬ ((19 : Int32) < nI k)) then (nI k - 17) else (-1)))) = (if k = 11 then 3 else if k = 17 then 0 else if k = 18 then 1 else if k = 19 then 2 else -1 : Int32) := by decide
    exact this k c26
  · have n2 : ¬ M 205 18 = 2 := fun z => by
      rcases Nat.lt_or_ge k 36 with c2 | c2
      · rw [(hat.s (by omega) c2).1] at z; exact absurd z (by decide)
      · have : k = 36 ∨ k = 37 ∨ k = 38 := by omega
        rcases this with q | q | q
        · rw [(hat.n q).1] at z; exact absurd z (by decide)
        · rw [hat.e q] at z; exact absurd z (by decide)
        · rw [hat.o q] at z; exact absurd z (by decide)
    rw [if_neg (fun z => z.1 n2), if_pos n2, if_neg (by omega), if_neg (by omega), if_neg (by omega), if_neg (by omega)]
end
