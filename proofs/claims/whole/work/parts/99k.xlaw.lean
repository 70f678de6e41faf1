section
/-! TEXT 0, THE PROGRAM -/
def lw0 (l : Lw) : Lw := (0, l.w, l.f, l.h, l.t, l.cs, 0)
theorem lw0_ok (l : Lw) : LwOk (lw0 l) := ⟨Nat.zero_le _, Nat.zero_le _, fun k hk => absurd hk (Nat.not_lt_zero k), fun k hk => absurd hk (Nat.not_lt_zero k), fun k hk => absurd hk (Nat.not_lt_zero k), fun k hk => absurd hk (Nat.not_lt_zero k), fun k hk => absurd hk (Nat.not_lt_zero k), fun k hk => absurd hk (Nat.not_lt_zero k)⟩
theorem cp_at {M : am_M} {a b m : Nat} {k : Nat} (hk : k < m) : am_row M b (va_cpy (M a) (M b) 0 0 m) b k = M a k := by
  rw [row_same]
  unfold va_cpy
  rw [if_pos ⟨Nat.zero_le _, by omega⟩, show 0 + (k - 0) = k by omega]
theorem x_cpL {d nS : Nat} {l : Lw} {M : am_M} {Q : Option Value → am_H → Prop} (h : CLw 188 M l) (hl : LwOk l) (hQ : ∀ M', CLw 31 M' l → (∀ a k, ¬ (31 ≤ a ∧ a ≤ 36) → M' a k = M a k) → Q none (hp nS M')) : am_Wp (d + 2) 31 0 [.ref 31, .ref 188] [] (hp nS M) Q := by
  have h16 := hl.n16
  have h400 := hl.u400
  have e0 : ∀ (A : am_M) (k : Nat) (v : Int32) (a : Nat), ¬ a = 31 → am_up A 31 k v a = A a := fun A k v a ha => up_ne _ _ _ (by omega)
  rw [b_31_0, e0 _ _ _ 188 (by decide), h.n, h.u]
  have m1 : ∀ a, ¬ a = 31 → am_up (am_up M 31 0 (nI l.n)) 31 1 (nI l.u) a = M a := fun a ha => by rw [e0 _ _ _ a ha, e0 _ _ _ a ha]
  have n1 : am_up (am_up M 31 0 (nI l.n)) 31 1 (nI l.u) 31 0 = nI l.n := by rw [up_pt _ _ (by omega), up_same, upd_same]
  have u1 : am_up (am_up M 31 0 (nI l.n)) 31 1 (nI l.u) 31 1 = nI l.u := by rw [up_same, upd_same]
  generalize am_up (am_up M 31 0 (nI l.n)) 31 1 (nI l.u) = M1 at m1 n1 u1 ⊢
  rw [k_189_32, am_ans_none, b_31_27, k_190_33, am_ans_none, b_31_38, k_191_34, am_ans_none, b_31_49, k_192_35, am_ans_none]
  have m2 : ∀ a, ¬ a = 32 → am_row M1 32 (va_cpy (M1 189) (M1 32) 0 0 16) a = M1 a := fun a ha => row_ne _ _ (by omega)
  have r2 : ∀ k, k < 16 → am_row M1 32 (va_cpy (M1 189) (M1 32) 0 0 16) 32 k = M1 189 k := fun k hk => cp_at hk
  generalize am_row M1 32 (va_cpy (M1 189) (M1 32) 0 0 16) = M2 at m2 r2 ⊢
  have m3 : ∀ a, ¬ a = 33 → am_row M2 33 (va_cpy (M2 190) (M2 33) 0 0 16) a = M2 a := fun a ha => row_ne _ _ (by omega)
  have r3 : ∀ k, k < 16 → am_row M2 33 (va_cpy (M2 190) (M2 33) 0 0 16) 33 k = M2 190 k := fun k hk => cp_at hk
  generalize am_row M2 33 (va_cpy (M2 190) (M2 33) 0 0 16) = M3 at m3 r3 ⊢
  have m4 : ∀ a, ¬ a = 34 → am_row M3 34 (va_cpy (M3 191) (M3 34) 0 0 16) a = M3 a := fun a ha => row_ne _ _ (by omega)
  have r4 : ∀ k, k < 16 → am_row M3 34 (va_cpy (M3 191) (M3 34) 0 0 16) 34 k = M3 191 k := fun k hk => cp_at hk
  generalize am_row M3 34 (va_cpy (M3 191) (M3 34) 0 0 16) = M4 at m4 r4 ⊢
  have m5 : ∀ a, ¬ a = 35 → am_row M4 35 (va_cpy (M4 192) (M4 35) 0 0 16) a = M4 a := fun a ha => row_ne _ _ (by omega)
  have r5 : ∀ k, k < 16 → am_row M4 35 (va_cpy (M4 192) (M4 35) 0 0 16) 35 k = M4 192 k := fun k hk => cp_at hk
  generalize am_row M4 35 (va_cpy (M4 192) (M4 35) 0 0 16) = M5 at m5 r5 ⊢
  have u5 : M5 188 1 = nI l.u := by rw [m5 _ (by decide), m4 _ (by decide), m3 _ (by decide), m2 _ (by decide), m1 _ (by decide)]; exact h.u
  rw [b_31_60 (by rw [u5, cl_n (by omega)]; exact ⟨by rw [li, le_n (by omega) (by omega)]; omega, h400, h400⟩), u5, cl_n (by omega)]
  have m6 : ∀ a, ¬ a = 36 → am_row M5 36 (va_cpy (M5 193) (M5 36) 0 0 l.u) a = M5 a := fun a ha => row_ne _ _ (by omega)
  have r6 : ∀ k, k < l.u → am_row M5 36 (va_cpy (M5 193) (M5 36) 0 0 l.u) 36 k = M5 193 k := fun k hk => cp_at hk
  generalize am_row M5 36 (va_cpy (M5 193) (M5 36) 0 0 l.u) = M6 at m6 r6 ⊢
  refine hQ M6 ⟨?_, ?_, fun k hk => ?_, fun k hk => ?_, fun k hk => ?_, fun k hk => ?_, fun k hk => ?_⟩ (fun a k ha => ?_)
  · rw [m6 _ (by decide), m5 _ (by decide), m4 _ (by decide), m3 _ (by decide), m2 _ (by decide)]; exact n1
  · rw [m6 _ (by decide), m5 _ (by decide), m4 _ (by decide), m3 _ (by decide), m2 _ (by decide)]; exact u1
  · rw [m6 _ (by decide), m5 _ (by decide), m4 _ (by decide), m3 _ (by decide), r2 k (by omega), m1 _ (by decide)]; exact h.w k hk
  · rw [m6 _ (by decide), m5 _ (by decide), m4 _ (by decide), r3 k (by omega), m2 _ (by decide), m1 _ (by decide)]; exact h.f k hk
  · rw [m6 _ (by decide), m5 _ (by decide), r4 k (by omega), m3 _ (by decide), m2 _ (by decide), m1 _ (by decide)]; exact h.h k hk
  · rw [m6 _ (by decide), r5 k (by omega), m4 _ (by decide), m3 _ (by decide), m2 _ (by decide), m1 _ (by decide)]; exact h.t k hk
  · rw [r6 k hk, m5 _ (by decide), m4 _ (by decide), m3 _ (by decide), m2 _ (by decide), m1 _ (by decide)]; exact h.cs k hk
  · rw [m6 _ (by omega), m5 _ (by omega), m4 _ (by omega), m3 _ (by omega), m2 _ (by omega), m1 _ (by omega)]
/-- the start of every text: its tokens, and nothing read -/
def cT (a k : Nat) : Prop := (188 ≤ a ∧ a ≤ 197) ∨ (199 ≤ a ∧ a ≤ 201) ∨ a = 187
theorem x_begin {d nS c : Nat} {Mi : am_M} {s : St} {x : Int32} {M : am_M} {Q : Option Value → am_H → Prop} (hR : RO Mi) (hC : CI Mi M s) (hG : GI c s) (hQ : ∀ N M', TK s.tp s.len N M' → M' 187 0 = 0 → M' 187 10 = 0 → M' 187 1 = 0 → M' 187 2 = -1 → M' 188 0 = 0 → M' 188 1 = 0 → M' 196 1 = 0 → (∀ a k, ¬ cT a k → M' a k = M a k) → (if x < 0 then am_Wp (d + 9) 42 48 [.ref 187, .int x, .ref 18, .retAddr 0, .retAddr 0] [] (hp nS M') Q else am_Wp (d + 9) 42 43 [.ref 187, .int x, .ref 18, .retAddr 0, .retAddr 0] [] (hp nS M') Q)) : am_Wp (d + 9) 42 0 [.ref 187, .int x, .ref 18, .retAddr 0, .retAddr 0] [] (hp nS M) Q := by
  have hl := hG.l4
  have hT : TC M s.len s.tp := ⟨hC.ln, hC.tp, hl, hG.tp⟩
  rw [b_42_0]
  refine x_splits (d := d) hT (RO_f hR (fun a k ha => by rw [hC.lo a ha])) (fun M1 N tk f1 => ?_)
  rw [am_ans_none, b_42_4, c_26, am_ans_none, b_42_31]
  have g : ∀ a k, ¬ ((a = 187 ∧ (k = 0 ∨ k = 1 ∨ k = 2 ∨ k = 10)) ∨ (a = 188 ∧ (k = 0 ∨ k = 1)) ∨ (a = 196 ∧ k = 1)) → am_up (am_up (am_up (am_up (am_up (am_up (am_up M1 187 0 0) 187 10 0) 187 1 0) 187 2 (-1)) 188 0 0) 188 1 0) 196 1 0 a k = M1 a k := fun a k hk => by rw [up_pt _ _ (by omega), up_pt _ _ (by omega), up_pt _ _ (by omega), up_pt _ _ (by omega), up_pt _ _ (by omega), up_pt _ _ (by omega), up_pt _ _ (by omega)]
  refine hQ N _ ⟨?_, fun j hj => ?_, fun j hj hk => ?_, fun j hj => ?_, tk.e, tk.b, tk.l⟩ ?_ ?_ ?_ ?_ ?_ ?_ ?_ (fun a k hk => ?_)
  · rw [g _ _ (by omega)]; exact tk.t
  · rw [g _ _ (by omega)]; exact tk.k j hj
  · rw [g _ _ (by omega)]; exact tk.v j hj hk
  · rw [g _ _ (by omega)]; exact tk.p j hj
  · rw [up_pt _ _ (by omega), up_pt _ _ (by omega), up_pt _ _ (by omega), up_pt _ _ (by omega), up_pt _ _ (by omega), up_pt _ _ (by omega), up_same, upd_same]
  · rw [up_pt _ _ (by omega), up_pt _ _ (by omega), up_pt _ _ (by omega), up_pt _ _ (by omega), up_pt _ _ (by omega), up_same, upd_same]
  · rw [up_pt _ _ (by omega), up_pt _ _ (by omega), up_pt _ _ (by omega), up_pt _ _ (by omega), up_same, upd_same]
  · rw [up_pt _ _ (by omega), up_pt _ _ (by omega), up_pt _ _ (by omega), up_same, upd_same]
  · rw [up_pt _ _ (by omega), up_pt _ _ (by omega), up_same, upd_same]
  · rw [up_pt _ _ (by omega), up_same, upd_same]
  · rw [up_same, upd_same]
  · unfold cT at hk
    rw [g _ _ (by omega)]; exact f1 a k (by omega)
theorem x_t0 {d nS c : Nat} {Mi : am_M} {s : St} {M : am_M} {Q : Option Value → am_H → Prop} (hR : RO Mi) (hC : CI Mi M s) (hG : GI c s) (hE : ∀ N e M', TE (kK s.tp s.len) (kV s.tp s.len) N → lwL (kK s.tp s.len) (kV s.tp s.len) 17 0 (lw0 s.t.l) = .error e → CI Mi M' (sR s 0 s.tp (nI e.1) (nI (ps s.tp s.len e.2))) → Fc M M' → Q (some (.int (-1))) (hp nS M')) (hO : ∀ N l M', TE (kK s.tp s.len) (kV s.tp s.len) N → lwL (kK s.tp s.len) (kV s.tp s.len) 17 0 (lw0 s.t.l) = .ok l → LwOk l → CI Mi M' (sT (sR s 0 s.tp 0 (-1)) (tL s.t l)) → Fc M M' → Q (some (.int (nI l.n))) (hp nS M')) : am_Wp (d + 24) 135 0 [.ref 16, .int 0, .retAddr 0] [] (hp nS M) Q := by
  rw [b_135_0]
  refine x_begin (d := d + 14) hR hC hG (fun N M1 tk e0 e10 e1 e2 v0 v1 _ f1 => ?_)
  have hte := TE_of tk
  rw [if_neg (by decide), b_42_43, if_pos (by decide), b_42_50]
  have lc : LC s.tp s.len N 0 (lw0 s.t.l) M1 M1 := ⟨e10, Nat.zero_le _, ⟨v0, v1, fun k hk => absurd hk (Nat.not_lt_zero k), fun k hk => absurd hk (Nat.not_lt_zero k), fun k hk => absurd hk (Nat.not_lt_zero k), fun k hk => absurd hk (Nat.not_lt_zero k), fun k hk => absurd hk (Nat.not_lt_zero k)⟩, fun _ _ _ => rfl⟩
  refine x_law tk (by omega) 17 0 (lw0 s.t.l) M1 _ rfl (lw0_ok _) (Nat.le_refl _) lc (fun e M2 he hf => ?_) (fun l j M2 hl h2 h12 => ?_) (fun _ _ => rfl)
  · rw [am_ans_some, b_135_15, if_neg (fun z => z rfl), b_135_18]
    have f2 : ∀ a k, ¬ cT a k → M2 a k = M a k := fun a k hk => by
      rw [hf.f a k (fun z => hk (by unfold cT; omega))]; exact f1 a k hk
    refine hE N e M2 hte he (CI_R hC ?_ (fun k hk => absurd hk (Nat.not_lt_zero k)) hf.k hf.p (fun a k h1 h2 h3 => f2 a k (fun z => ?_))) (fun a ha => funext fun k => f2 a k (fun z => ?_))
    · rw [hf.f _ _ (by omega)]; exact e0
    · unfold cT at z; unfold sC at h2; omega
    · unfold cT at z; omega
  · have ok := lwL_ok hte 17 0 _ l (Nat.zero_le _) (Nat.le_refl _) (lw0_ok _) hl
    rw [am_ans_some, b_135_15, if_pos bn1, b_135_20, if_neg (fun z => z rfl), b_135_24]
    refine x_cpL (d := d + 21) h2.l ok (fun M3 l3 f3 => ?_)
    rw [am_ans_none, b_135_41, l3.n]
    have f2 : ∀ a k, ¬ cT a k → M2 a k = M a k := fun a k hk => by
      rw [h2.f a k (fun z => hk (by unfold cT; omega))]; exact f1 a k hk
    have c2 : CI Mi M2 (sR s 0 s.tp 0 (-1)) := CI_R hC (by rw [h2.f _ _ (by omega)]; exact e0) (fun k hk => absurd hk (Nat.not_lt_zero k)) (by rw [h12 1 (by omega)]; exact e1) (by rw [h12 2 (by omega)]; exact e2) (fun a k h1 h2 h3 => f2 a k (fun z => by unfold cT at z; unfold sC at h2; omega))
    refine hO N l M3 hte hl ok (CI_T c2 (CT_L c2.tw (by omega) l3 (fun a k h1 h2 h3 h4 => f3 a k (by omega))) rfl (fun a k h1 h2 h3 => f3 a k (by omega))) (fun a ha => funext fun k => ?_)
    rw [f3 a k (by omega)]
    exact f2 a k (fun z => by unfold cT at z; omega)
end
