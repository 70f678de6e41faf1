section
/-! TEXT 0, THE MODEL: what was read becomes the law -/
def TL (M0 M : am_M) (k : Nat) : Prop := (∀ b i, 215 ≤ b → b ≤ 218 → i < k → M b i = M0 b (32 + i)) ∧ (∀ b i, 215 ≤ b → b ≤ 218 → 16 ≤ i → M b i = M0 b i) ∧ (∀ a q, ¬ (215 ≤ a ∧ a ≤ 218) → M a q = M0 a q)
def TO (M0 M : am_M) (k : Nat) : Prop := (∀ b i, 219 ≤ b → b ≤ 220 → i < k → M b i = M0 b (800 + i)) ∧ (∀ b i, 219 ≤ b → b ≤ 220 → 400 ≤ i → M b i = M0 b i) ∧ (∀ a q, ¬ (219 ≤ a ∧ a ≤ 220) → M a q = M0 a q)
theorem z16 (n : Nat) : (16 : Int32) * 0 + nI n = nI n := by rw [show (16 : Int32) * 0 = 0 from rfl, Int32.zero_add]
theorem z400 (n : Nat) : (400 : Int32) * 0 + nI n = nI n := by rw [show (400 : Int32) * 0 = 0 from rfl, Int32.zero_add]
theorem u28 {b : Nat} (h : 205 < b) (A : am_M) (q : Nat) (v : Int32) : am_up A b q v 205 28 = A 205 28 := up_pt _ _ (by omega)
theorem m_tkL {d nS : Nat} {l : Lw} {M : am_M} {Q : Option Value → am_H → Prop} (hl : LwOk l) (h28 : M 205 28 = 0) (h29 : M 205 29 = nI l.u) (hw : ∀ k, k < l.n → M 215 (32 + k) = nI (l.w k)) (hf : ∀ k, k < l.n → M 216 (32 + k) = nI (l.f k)) (hh : ∀ k, k < l.n → M 217 (32 + k) = nI (l.h k)) (ht : ∀ k, k < l.n → M 218 (32 + k) = nI (l.t k)) (ho : ∀ i, i < l.u → M 219 (800 + i) = opM (l.cs i)) (ha : ∀ i, i < l.u → M 220 (800 + i) = arM (l.cs i)) (hQ : ∀ M', MLw M' l → (∀ a k, ¬ (214 ≤ a ∧ a ≤ 220) → M' a k = M a k) → Q none (hp nS M')) : am_Wp d 215 0 [.ref 205, .int (nI l.n), .retAddr 0] [] (hp nS M) Q := by
  have h16 := hl.n16
  have h400 := hl.u400
  have key2 : ∀ (M1 : am_M), TL M M1 l.n → ∀ m k A, k + m = l.u → TO M1 A k → am_Wp d 215 107 [.ref 205, .int (nI l.n), .int (nI k)] [] (hp nS A) Q := by
    intro M1 t1 m
    have q28 : M1 205 28 = 0 := by rw [t1.2.2 _ _ (by omega)]; exact h28
    have q29 : M1 205 29 = nI l.u := by rw [t1.2.2 _ _ (by omega)]; exact h29
    induction m with
    | zero =>
      intro k A hk t
      have e28 : A 205 28 = 0 := by rw [t.2.2 _ _ (by omega)]; exact q28
      have e29 : A 205 29 = nI l.u := by rw [t.2.2 _ _ (by omega)]; exact q29
      have hku : k = l.u := by omega
      rw [b_215_107, e29, if_pos (by rw [le_n (by omega) (by omega)]; omega), b_215_171 (by rw [e28]; exact in_n (a := 0) (N := 2) (by omega) (by omega)), e28, show (0 : Int32).toNatClampNeg = 0 from rfl]
      have row : ∀ b i, 215 ≤ b → b ≤ 218 → i < l.n → am_up A 214 0 (nI l.n) b i = M b (32 + i) := fun b i h1 h2 h3 => by rw [up_pt _ _ (by omega), t.2.2 b i (by omega)]; exact t1.1 b i h1 h2 h3
      have cod : ∀ b i, 219 ≤ b → b ≤ 220 → i < l.u → am_up A 214 0 (nI l.n) b i = M b (800 + i) := fun b i h1 h2 h3 => by rw [up_pt _ _ (by omega), t.1 b i h1 h2 (by omega)]; exact t1.2.2 _ _ (by omega)
      refine hQ _ ⟨by rw [up_same, upd_same], fun i hi => ?_, fun i hi => ?_, fun i hi => ?_, fun i hi => ?_, fun i hi => ?_, fun i hi => ?_⟩ (fun a q hq => ?_)
      · rw [row 215 i (by omega) (by omega) hi]; exact hw i hi
      · rw [row 216 i (by omega) (by omega) hi]; exact hf i hi
      · rw [row 217 i (by omega) (by omega) hi]; exact hh i hi
      · rw [row 218 i (by omega) (by omega) hi]; exact ht i hi
      · rw [cod 219 i (by omega) (by omega) hi]; exact ho i hi
      · rw [cod 220 i (by omega) (by omega) hi]; exact ha i hi
      · rw [up_pt _ _ (by omega), t.2.2 _ _ (by omega)]; exact t1.2.2 _ _ (by omega)
    | succ m ih =>
      intro k A hk t
      have e28 : A 205 28 = 0 := by rw [t.2.2 _ _ (by omega)]; exact q28
      have e29 : A 205 29 = nI l.u := by rw [t.2.2 _ _ (by omega)]; exact q29
      have e8 : (800 : Int32) + nI k = nI (800 + k) := adl 800 k
      have v8 : vp_in (nI (800 + k)) 1200 := in_n (by omega) (by omega)
      have vk : vp_in (nI k) 1200 := in_n (by omega) (by omega)
      have c8 : (nI (800 + k)).toNatClampNeg = 800 + k := cl_n (by omega)
      have ck : (nI k).toNatClampNeg = k := cl_n (by omega)
      have b := b_215_115 (d := d) (nS := nS) (x1 := nI l.n) (x2 := nI k) (M := A) (Q := Q)
      simp only [u28 (show 205 < 219 by decide), u28 (show 205 < 220 by decide), e28, e8, z400, c8, ck] at b
      rw [b_215_107, e29, if_neg (by rw [le_n (by omega) (by omega)]; omega), b v8 vk v8 vk, nI_1]
      have pt : ∀ c i, 219 ≤ c → c ≤ 220 → am_up (am_up A 219 k (A 219 (800 + k))) 220 k ((am_up A 219 k (A 219 (800 + k))) 220 (800 + k)) c i = if i = k then A c (800 + k) else A c i := fun c i h1 h2 => by
        have : c = 219 ∨ c = 220 := by omega
        rcases this with rfl | rfl
        · rw [up_ne _ _ _ (by decide), up_same, upd_at]
        · rw [up_same, upd_at, up_ne _ _ _ (by decide)]
      refine ih (k + 1) _ (by omega) ⟨fun c i h1 h2 h3 => ?_, fun c i h1 h2 h3 => ?_, fun a q hq => ?_⟩
      · rw [pt c i h1 h2]
        by_cases e : i = k
        · rw [if_pos e, e]; exact t.2.1 c _ h1 h2 (by omega)
        · rw [if_neg e]; exact t.1 c i h1 h2 (by omega)
      · rw [pt c i h1 h2, if_neg (by omega)]; exact t.2.1 c i h1 h2 h3
      · rw [up_pt _ _ (by omega), up_pt _ _ (by omega)]; exact t.2.2 a q hq
  have key1 : ∀ m k A, k + m = l.n → TL M A k → am_Wp d 215 2 [.ref 205, .int (nI l.n), .int (nI k)] [] (hp nS A) Q := by
    intro m
    induction m with
    | zero =>
      intro k A hk t
      have hkn : k = l.n := by omega
      rw [b_215_2, if_pos (by rw [le_n (by omega) (by omega)]; omega), b_215_105]
      exact key2 A (hkn ▸ t) l.u 0 A (by omega) ⟨fun c i h1 h2 h3 => absurd h3 (Nat.not_lt_zero i), fun c i h1 h2 h3 => rfl, fun a q hq => rfl⟩
    | succ m ih =>
      intro k A hk t
      have e28 : A 205 28 = 0 := by rw [t.2.2 _ _ (by omega)]; exact h28
      have e8 : (32 : Int32) + nI k = nI (32 + k) := adl 32 k
      have v8 : vp_in (nI (32 + k)) 48 := in_n (by omega) (by omega)
      have vk : vp_in (nI k) 48 := in_n (by omega) (by omega)
      have c8 : (nI (32 + k)).toNatClampNeg = 32 + k := cl_n (by omega)
      have ck : (nI k).toNatClampNeg = k := cl_n (by omega)
      have b := b_215_7 (d := d) (nS := nS) (x1 := nI l.n) (x2 := nI k) (M := A) (Q := Q)
      have w6 : ∀ (B : am_M) (q : Nat) (v : Int32), am_up B 215 q v 216 = B 216 := fun B q v => up_ne _ _ _ (by decide)
      have w7 : ∀ (B : am_M) (q : Nat) (v : Int32), am_up B 215 q v 217 = B 217 := fun B q v => up_ne _ _ _ (by decide)
      have w8 : ∀ (B : am_M) (q : Nat) (v : Int32), am_up B 215 q v 218 = B 218 := fun B q v => up_ne _ _ _ (by decide)
      have x7 : ∀ (B : am_M) (q : Nat) (v : Int32), am_up B 216 q v 217 = B 217 := fun B q v => up_ne _ _ _ (by decide)
      have x8 : ∀ (B : am_M) (q : Nat) (v : Int32), am_up B 216 q v 218 = B 218 := fun B q v => up_ne _ _ _ (by decide)
      have y8 : ∀ (B : am_M) (q : Nat) (v : Int32), am_up B 217 q v 218 = B 218 := fun B q v => up_ne _ _ _ (by decide)
      simp only [u28 (show 205 < 215 by decide), u28 (show 205 < 216 by decide), u28 (show 205 < 217 by decide), u28 (show 205 < 218 by decide), e28, e8, z16, c8, ck, w6, w7, w8, x7, x8, y8] at b
      rw [b_215_2, if_neg (by rw [le_n (by omega) (by omega)]; omega), b v8 vk v8 vk v8 vk v8 vk, nI_1]
      have pt : ∀ c i, 215 ≤ c → c ≤ 218 → am_up (am_up (am_up (am_up A 215 k (A 215 (32 + k))) 216 k (A 216 (32 + k))) 217 k (A 217 (32 + k))) 218 k (A 218 (32 + k)) c i = if i = k then A c (32 + k) else A c i := fun c i h1 h2 => by
        have : c = 215 ∨ c = 216 ∨ c = 217 ∨ c = 218 := by omega
        rcases this with rfl | rfl | rfl | rfl
        · rw [up_ne _ _ _ (by decide), up_ne _ _ _ (by decide), up_ne _ _ _ (by decide), up_same, upd_at]
        · rw [up_ne _ _ _ (by decide), up_ne _ _ _ (by decide), up_same, upd_at, w6]
        · rw [up_ne _ _ _ (by decide), up_same, upd_at, x7, w7]
        · rw [up_same, upd_at, y8, x8, w8]
      refine ih (k + 1) _ (by omega) ⟨fun c i h1 h2 h3 => ?_, fun c i h1 h2 h3 => ?_, fun a q hq => ?_⟩
      · rw [pt c i h1 h2]
        by_cases e : i = k
        · rw [if_pos e, e]; exact t.2.1 c _ h1 h2 (by omega)
        · rw [if_neg e]; exact t.1 c i h1 h2 (by omega)
      · rw [pt c i h1 h2, if_neg (by omega)]; exact t.2.1 c i h1 h2 h3
      · rw [up_pt _ _ (by omega), up_pt _ _ (by omega), up_pt _ _ (by omega), up_pt _ _ (by omega)]; exact t.2.2 a q hq
  rw [b_215_0]
  exact key1 l.n 0 M (by omega) ⟨fun c i h1 h2 h3 => absurd h3 (Nat.not_lt_zero i), fun c i h1 h2 h3 => rfl, fun a q hq => rfl⟩
end
