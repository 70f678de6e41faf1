section
theorem m_code {d nS j : Nat} {x2 : Int32} {M : am_M} {Q : Option Value → am_H → Prop} (cs : Nat → Cd) (ak : Nat → Int32) (h219 : ∀ i, i < j → M 219 i = opM (cs i)) (h220 : ∀ i, i < j → M 220 i = arM (cs i)) (h225 : ∀ a, a < 9 → M 225 a = ak a) (hj : j ≤ 400) : ∀ (m i : Nat) (s : List Int32) (t : List Nat) (b : Nat) (r : Nat → Int32), i + m = j → TyR cs m i t [b] → okL t → VT s t → SR r s → (∀ r', Q (some (.int ((rnS cs ak m i s).headD 0))) (hp nS (am_row M 226 r'))) → am_Wp (d + 1) 236 12 [.ref 205, .int 0, .int x2, .int (nI j), .int (nI s.length), .int (nI i)] [] (hp nS (am_row M 226 r)) Q := by
  have e400 : ∀ x : Int32, (400 : Int32) * 0 + x = x := fun x => by rw [show (400 : Int32) * 0 = 0 from by decide, Int32.zero_add]
  intro m
  induction m with
  | zero =>
    intro i s t b r hi ht ho hv hs hQ
    have ht : t = [b] := ht
    subst ht
    rw [b_236_12, e400, if_pos (by rw [le_n (by omega) (by omega)]; omega), b_236_176, row_same]
    cases s with
    | nil => exact hv.elim
    | cons x s => cases s with
      | cons _ _ => exact hv.2.2.elim
      | nil =>
        have e : r 0 = x := hs.1
        rw [e]
        exact hQ r
  | succ m ih =>
    intro i s t b r hi ht ho hv hs hQ
    obtain ⟨t1, h1, h2⟩ := ht
    have hv1 := VT_step ak h1 hv
    have hl := VT_len hv
    have e19 : am_row M 226 r 219 i = opM (cs i) := by rw [row_ne _ _ (by decide)]; exact h219 i (by omega)
    have e20 : am_row M 226 r 220 i = arM (cs i) := by rw [row_ne _ _ (by decide)]; exact h220 i (by omega)
    have go : ∀ (r' : Nat → Int32), SR r' (st1 ak (cs i) s) → am_Wp (d + 1) 236 170 [.ref 205, .int 0, .int x2, .int (nI j), .int (nI (st1 ak (cs i) s).length), .int (nI i)] [] (hp nS (am_row M 226 r')) Q := by
      intro r' hr'
      rw [b_236_170, nI_1]
      exact ih (i + 1) _ t1 b r' (by omega) h2 (ty_okL h1 ho) hv1 hr' hQ
    rw [b_236_12, e400, if_neg (by rw [le_n (by omega) (by omega)]; omega), b_236_24 (by first | exact in_n (by omega) (by omega) | (simp only [li, nI_add, pk_mul]; exact in_n (by omega) (by omega))), cl_n (by omega), e19]
    rcases ty_two h1 with ⟨v, hc, hl29, hv9⟩ | ⟨a, hc, ha, hl29⟩ | ⟨hc, u, hu⟩ | ⟨k, bb, aa, u, hc, hu, hk9, hk⟩
    · rw [hc] at go e19 e20 ⊢
      rw [st1_n] at go
      rw [if_pos (show opM (Cd.num v) = 0 from rfl), b_236_45 (by first | exact in_n (by omega) (by omega) | (simp only [li, nI_add, pk_mul]; exact in_n (by omega) (by omega))), cl_n (by omega), e19, if_neg (show ¬ ¬ opM (Cd.num v) = 0 from fun z => z rfl), b_236_61 (by first | exact in_n (by omega) (by omega) | (simp only [li, nI_add, pk_mul]; exact in_n (by omega) (by omega))), cl_n (by omega), e20, b_236_83 (by first | exact in_n (by omega) (by omega) | (simp only [li, nI_add, pk_mul]; exact in_n (by omega) (by omega))), cl_n (by omega), up_row, nI_1]
      exact go _ (SR_put hs)
    · rw [hc] at go e19 e20 ⊢
      rw [st1_a] at go
      have e20' : am_row M 226 r 220 i = nI a := e20
      rw [if_neg (show ¬ opM (Cd.ask a) = 0 by rw [opM_a]; decide), b_236_34 (by first | exact in_n (by omega) (by omega) | (simp only [li, nI_add, pk_mul]; exact in_n (by omega) (by omega))), cl_n (by omega), e19, if_neg (show ¬ ¬ opM (Cd.ask a) = 1 from fun z => z rfl), b_236_45 (by first | exact in_n (by omega) (by omega) | (simp only [li, nI_add, pk_mul]; exact in_n (by omega) (by omega))), cl_n (by omega), e19, if_pos (show ¬ opM (Cd.ask a) = 0 by rw [opM_a]; decide), b_236_71 (by first | exact in_n (by omega) (by omega) | (simp only [li, nI_add, pk_mul]; exact in_n (by omega) (by omega))) (by rw [cl_n (by omega), e20']; exact in_n ha (by omega)), cl_n (by omega), e20', cl_n (by omega), row_ne _ _ (by decide), h225 a ha, b_236_83 (by first | exact in_n (by omega) (by omega) | (simp only [li, nI_add, pk_mul]; exact in_n (by omega) (by omega))), cl_n (by omega), up_row, nI_1]
      exact go _ (SR_put hs)
    · rw [hc] at go e19 e20 ⊢
      subst hu
      cases s with
      | nil => exact hv.elim
      | cons x s =>
        rw [st1_9] at go
        have hx : r s.length = x := hs.1
        have e1 : nI (x :: s).length - 1 = nI s.length := by rw [List.length_cons, sub1 (by omega)]; rfl
        have e3 : s.length < 32 := by
          have := VT_len hv
          unfold okL at ho
          rw [List.length_cons] at this
          omega
        rw [if_neg (show ¬ opM (Cd.op 9) = 0 by decide), b_236_34 (by first | exact in_n (by omega) (by omega) | (simp only [li, nI_add, pk_mul]; exact in_n (by omega) (by omega))), cl_n (by omega), e19, if_pos (show ¬ opM (Cd.op 9) = 1 by decide), b_236_93 (by first | exact in_n (by omega) (by omega) | (simp only [li, nI_add, pk_mul]; exact in_n (by omega) (by omega))), cl_n (by omega), e19, if_neg (show ¬ ¬ opM (Cd.op 9) = 9 from fun z => z rfl), b_236_105 (by rw [e1]; exact in_n (by omega) (by omega)) (by rw [e1]; exact in_n (by omega) (by omega)), e1, cl_n (by omega), row_same, hx, up_row]
        exact go _ (SR_put hs.2)
    · rw [hc] at go e19 e20 ⊢
      subst hu
      cases s with
      | nil => exact hv.elim
      | cons y s => cases s with
        | nil => exact hv.2.2.elim
        | cons x s =>
          have hy : r (s.length + 1) = y := hs.1
          have hx : r s.length = x := hs.2.1
          have e0 : (y :: x :: s).length = s.length + 2 := rfl
          have e1 : nI (y :: x :: s).length - 1 = nI (s.length + 1) := by rw [e0, sub1 (by omega)]; rfl
          have e2 : nI (s.length + 1) - 1 = nI s.length := by rw [sub1 (by omega)]; rfl
          have e3 : s.length + 1 < 32 := by
            have := VT_len hv
            unfold okL at ho
            rw [e0] at this
            omega
          obtain ⟨_, _, q3, q4, q5⟩ := kd_not9 (k := k) (by omega)
          have e19' : am_row M 226 r 219 i = nI k := e19
          rw [if_neg (show ¬ opM (Cd.op k) = 0 from q3), b_236_34 (by first | exact in_n (by omega) (by omega) | (simp only [li, nI_add, pk_mul]; exact in_n (by omega) (by omega))), cl_n (by omega), e19', if_pos q4, b_236_93 (by first | exact in_n (by omega) (by omega) | (simp only [li, nI_add, pk_mul]; exact in_n (by omega) (by omega))), cl_n (by omega), e19', if_pos q5, b_236_128 (by first | exact in_n (by omega) (by omega) | (simp only [li, nI_add, pk_mul]; exact in_n (by omega) (by omega))) (by rw [e1, e2]; exact in_n (by omega) (by omega)) (by rw [e1]; exact in_n (by omega) (by omega)), e1, e2, cl_n (by omega), cl_n (by omega), cl_n (by omega), e19', row_same, hx, hy, m_two (okJ_of hv hk), am_ans_some, b_236_169 (by first | exact in_n (by omega) (by omega) | (simp only [li, nI_add, pk_mul]; exact in_n (by omega) (by omega))), cl_n (by omega), up_row]
          have := go (upd r s.length (twoV k x y))
          rw [st1_2 ak hk9] at this
          exact this (SR_put hs.2.2)
/-! lines -/
abbrev Lw := (Nat) × (Nat → Nat) × (Nat → Nat) × (Nat → Nat) × (Nat → Nat) × (Nat → Cd) × (Nat)
def Lw.n (zz : Lw) : Nat := zz.1
def Lw.w (zz : Lw) : Nat → Nat := zz.2.1
def Lw.f (zz : Lw) : Nat → Nat := zz.2.2.1
def Lw.h (zz : Lw) : Nat → Nat := zz.2.2.2.1
def Lw.t (zz : Lw) : Nat → Nat := zz.2.2.2.2.1
def Lw.cs (zz : Lw) : Nat → Cd := zz.2.2.2.2.2.1
def Lw.u (zz : Lw) : Nat := zz.2.2.2.2.2.2
/-- a law that can stand -/
abbrev LwOk (l : Lw) : Prop := (l.n ≤ 16) ∧ (l.u ≤ 400) ∧ (∀ k, k < l.n → l.w k ≤ 2) ∧ (∀ k, k < l.n → l.f k ≤ l.h k) ∧ (∀ k, k < l.n → l.h k ≤ l.t k) ∧ (∀ k, k < l.n → l.t k ≤ l.u) ∧ (∀ k, k < l.n → ∃ b, TyR l.cs (l.h k - l.f k) (l.f k) [] [b]) ∧ (∀ k, k < l.n → l.h k = l.t k ∨ ∃ b, TyR l.cs (l.t k - l.h k) (l.h k) [] [b])
theorem LwOk.n16 {l : Lw} (zz : LwOk l) : l.n ≤ 16 := zz.1
theorem LwOk.u400 {l : Lw} (zz : LwOk l) : l.u ≤ 400 := zz.2.1
theorem LwOk.w3 {l : Lw} (zz : LwOk l) : ∀ k, k < l.n → l.w k ≤ 2 := zz.2.2.1
theorem LwOk.fh {l : Lw} (zz : LwOk l) : ∀ k, k < l.n → l.f k ≤ l.h k := zz.2.2.2.1
theorem LwOk.ht {l : Lw} (zz : LwOk l) : ∀ k, k < l.n → l.h k ≤ l.t k := zz.2.2.2.2.1
theorem LwOk.tu {l : Lw} (zz : LwOk l) : ∀ k, k < l.n → l.t k ≤ l.u := zz.2.2.2.2.2.1
theorem LwOk.e {l : Lw} (zz : LwOk l) : ∀ k, k < l.n → ∃ b, TyR l.cs (l.h k - l.f k) (l.f k) [] [b] := zz.2.2.2.2.2.2.1
theorem LwOk.c {l : Lw} (zz : LwOk l) : ∀ k, k < l.n → l.h k = l.t k ∨ ∃ b, TyR l.cs (l.t k - l.h k) (l.h k) [] [b] := zz.2.2.2.2.2.2.2
def evl (l : Lw) (ak : Nat → Int32) (i j : Nat) : Int32 := (rnS l.cs ak (j - i) i []).headD 0
/-- the first line of a word that is so, from the m last ones -/
def lnO (l : Lw) (ak : Nat → Int32) (w : Nat) : Nat → Option Nat
  | 0 => none
  | m + 1 => if l.w (l.n - (m + 1)) = w ∧ (l.h (l.n - (m + 1)) = l.t (l.n - (m + 1)) ∨ ¬ evl l ak (l.h (l.n - (m + 1))) (l.t (l.n - (m + 1))) = 0) then some (l.n - (m + 1)) else lnO l ak w m
def hvV (lo hi v : Int32) : Int32 := if lo ≤ v then (if v ≤ hi then v else hi) else lo
def telV (l : Lw) (ak : Nat → Int32) (w : Nat) (us lo hi : Int32) : Int32 := match lnO l ak w l.n with
  | some k => hvV lo hi (evl l ak (l.f k) (l.h k))
  | none => hvV lo hi us
/-- the model has this law -/
abbrev MLw (M : am_M) (l : Lw) : Prop := (M 214 0 = nI l.n) ∧ (∀ k, k < l.n → M 215 k = nI (l.w k)) ∧ (∀ k, k < l.n → M 216 k = nI (l.f k)) ∧ (∀ k, k < l.n → M 217 k = nI (l.h k)) ∧ (∀ k, k < l.n → M 218 k = nI (l.t k)) ∧ (∀ i, i < l.u → M 219 i = opM (l.cs i)) ∧ (∀ i, i < l.u → M 220 i = arM (l.cs i))
theorem MLw.n {M : am_M} {l : Lw} (zz : MLw M l) : M 214 0 = nI l.n := zz.1
theorem MLw.w {M : am_M} {l : Lw} (zz : MLw M l) : ∀ k, k < l.n → M 215 k = nI (l.w k) := zz.2.1
theorem MLw.f {M : am_M} {l : Lw} (zz : MLw M l) : ∀ k, k < l.n → M 216 k = nI (l.f k) := zz.2.2.1
theorem MLw.h {M : am_M} {l : Lw} (zz : MLw M l) : ∀ k, k < l.n → M 217 k = nI (l.h k) := zz.2.2.2.1
theorem MLw.t {M : am_M} {l : Lw} (zz : MLw M l) : ∀ k, k < l.n → M 218 k = nI (l.t k) := zz.2.2.2.2.1
theorem MLw.op {M : am_M} {l : Lw} (zz : MLw M l) : ∀ i, i < l.u → M 219 i = opM (l.cs i) := zz.2.2.2.2.2.1
theorem MLw.ar {M : am_M} {l : Lw} (zz : MLw M l) : ∀ i, i < l.u → M 220 i = arM (l.cs i) := zz.2.2.2.2.2.2
/-- the class has this law, at b -/
abbrev CLw (b : Nat) (M : am_M) (l : Lw) : Prop := (M b 0 = nI l.n) ∧ (M b 1 = nI l.u) ∧ (∀ k, k < l.n → M (b + 1) k = nI (l.w k)) ∧ (∀ k, k < l.n → M (b + 2) k = nI (l.f k)) ∧ (∀ k, k < l.n → M (b + 3) k = nI (l.h k)) ∧ (∀ k, k < l.n → M (b + 4) k = nI (l.t k)) ∧ (∀ i, i < l.u → M (b + 5) i = enc (l.cs i))
theorem CLw.n {b : Nat} {M : am_M} {l : Lw} (zz : CLw b M l) : M b 0 = nI l.n := zz.1
theorem CLw.u {b : Nat} {M : am_M} {l : Lw} (zz : CLw b M l) : M b 1 = nI l.u := zz.2.1
theorem CLw.w {b : Nat} {M : am_M} {l : Lw} (zz : CLw b M l) : ∀ k, k < l.n → M (b + 1) k = nI (l.w k) := zz.2.2.1
theorem CLw.f {b : Nat} {M : am_M} {l : Lw} (zz : CLw b M l) : ∀ k, k < l.n → M (b + 2) k = nI (l.f k) := zz.2.2.2.1
theorem CLw.h {b : Nat} {M : am_M} {l : Lw} (zz : CLw b M l) : ∀ k, k < l.n → M (b + 3) k = nI (l.h k) := zz.2.2.2.2.1
theorem CLw.t {b : Nat} {M : am_M} {l : Lw} (zz : CLw b M l) : ∀ k, k < l.n → M (b + 4) k = nI (l.t k) := zz.2.2.2.2.2.1
theorem CLw.cs {b : Nat} {M : am_M} {l : Lw} (zz : CLw b M l) : ∀ i, i < l.u → M (b + 5) i = enc (l.cs i) := zz.2.2.2.2.2.2
theorem MLw_row {M : am_M} {l : Lw} (h : MLw M l) {a : Nat} (r : Nat → Int32) (ha : a < 214 ∨ 220 < a) : MLw (am_row M a r) l := by
  have e : ∀ k, 214 ≤ k → k ≤ 220 → am_row M a r k = M k := fun k h1 h2 => row_ne _ _ (by omega)
  refine ⟨?_, ?_, ?_, ?_, ?_, ?_, ?_⟩
  · rw [e 214 (by omega) (by omega)]; exact h.n
  · rw [e 215 (by omega) (by omega)]; exact h.w
  · rw [e 216 (by omega) (by omega)]; exact h.f
  · rw [e 217 (by omega) (by omega)]; exact h.h
  · rw [e 218 (by omega) (by omega)]; exact h.t
  · rw [e 219 (by omega) (by omega)]; exact h.op
  · rw [e 220 (by omega) (by omega)]; exact h.ar
theorem CLw_row {b : Nat} {M : am_M} {l : Lw} (h : CLw b M l) {a : Nat} (r : Nat → Int32) (ha : a < b ∨ b + 5 < a) : CLw b (am_row M a r) l := by
  have e : ∀ k, b ≤ k → k ≤ b + 5 → am_row M a r k = M k := fun k h1 h2 => row_ne _ _ (by omega)
  refine ⟨?_, ?_, ?_, ?_, ?_, ?_, ?_⟩
  · rw [e b (by omega) (by omega)]; exact h.n
  · rw [e b (by omega) (by omega)]; exact h.u
  · rw [e (b + 1) (by omega) (by omega)]; exact h.w
  · rw [e (b + 2) (by omega) (by omega)]; exact h.f
  · rw [e (b + 3) (by omega) (by omega)]; exact h.h
  · rw [e (b + 4) (by omega) (by omega)]; exact h.t
  · rw [e (b + 5) (by omega) (by omega)]; exact h.cs
theorem m_evl {d nS i j b : Nat} {M : am_M} {Q : Option Value → am_H → Prop} (l : Lw) (ak : Nat → Int32) (hM : MLw M l) (h225 : ∀ a, a < 9 → M 225 a = ak a) (hij : i ≤ j) (hju : j ≤ l.u) (hu : l.u ≤ 400) (ht : TyR l.cs (j - i) i [] [b]) (hQ : ∀ r', Q (some (.int (evl l ak i j))) (hp nS (am_row M 226 r'))) : am_Wp (d + 1) 236 0 [.ref 205, .int 0, .int (nI i), .int (nI j), .retAddr 0, .retAddr 0] [] (hp nS M) Q := by
  have e400 : ∀ x : Int32, (400 : Int32) * 0 + x = x := fun x => by rw [show (400 : Int32) * 0 = 0 from by decide, Int32.zero_add]
  rw [b_236_0, e400, ← row_id M 226]
  exact m_code l.cs ak (fun k hk => hM.op k (by omega)) (fun k hk => hM.ar k (by omega)) h225 (by omega) (j - i) i [] [] b _ (by omega) ht (by unfold okL; simp) trivial trivial hQ
theorem x_evl {d nS i j b : Nat} {M : am_M} {Q : Option Value → am_H → Prop} (l : Lw) (ak : Nat → Int32) (hM : CLw 31 M l) (h37 : ∀ a, a < 9 → M 37 a = ak a) (hij : i ≤ j) (hju : j ≤ l.u) (hu : l.u ≤ 400) (ht : TyR l.cs (j - i) i [] [b]) (hQ : ∀ r', Q (some (.int (evl l ak i j))) (hp nS (am_row M 38 r'))) : am_Wp (d + 1) 22 0 [.ref 31, .int (nI i), .int (nI j), .retAddr 0, .retAddr 0, .retAddr 0, .retAddr 0, .retAddr 0] [] (hp nS M) Q := by
  rw [b_22_0, ← row_id M 38]
  exact x_code l.cs ak (fun k hk => hM.cs k (by omega)) h37 (by omega) (j - i) i [] [] b _ _ _ _ (by omega) ht (by unfold okL; simp) trivial trivial hQ
theorem m_lineOf {d nS w : Nat} {M : am_M} {Q : Option Value → am_H → Prop} (l : Lw) (ak : Nat → Int32) (hl : LwOk l) (hw : w ≤ 2) (hM : MLw M l) (h225 : ∀ a, a < 9 → M 225 a = ak a) (hQ : ∀ r', Q (some (.int (oI (lnO l ak w l.n)))) (hp nS (am_row M 226 r'))) : am_Wp (d + 2) 235 0 [.ref 205, .int (nI w), .retAddr 0] [] (hp nS M) Q := by
  have h16 := hl.n16
  have h400 := hl.u400
  have key : ∀ m (r : Nat → Int32), m ≤ l.n → lnO l ak w m = lnO l ak w l.n → am_Wp (d + 2) 235 2 [.ref 205, .int (nI w), .int (nI (l.n - m))] [] (hp nS (am_row M 226 r)) Q := by
    intro m
    induction m with
    | zero =>
      intro r _ he
      rw [b_235_2, row_ne _ _ (by decide), hM.n, if_pos (by rw [le_n (by omega) (by omega)]; omega), b_235_65]
      have := hQ r
      rw [← he] at this
      exact this
    | succ m ih =>
      intro r hm he
      have hk : l.n - (m + 1) < l.n := by omega
      have e : l.n - (m + 1) + 1 = l.n - m := by omega
      have hR := MLw_row hM (a := 226) r (by omega)
      have hwk := hl.w3 _ hk
      have hfh := hl.fh _ hk
      have hht := hl.ht _ hk
      have htu := hl.tu _ hk
      have next : ∀ r' : Nat → Int32, lnO l ak w (m + 1) = lnO l ak w m → am_Wp (d + 2) 235 59 [.ref 205, .int (nI w), .int (nI (l.n - (m + 1)))] [] (hp nS (am_row M 226 r')) Q := by
        intro r' h1
        rw [b_235_59, nI_1, e]
        exact ih r' (by omega) (h1 ▸ he)
      have stop : ∀ r' : Nat → Int32, lnO l ak w (m + 1) = some (l.n - (m + 1)) → am_Wp (d + 2) 235 57 [.ref 205, .int (nI w), .int (nI (l.n - (m + 1)))] [] (hp nS (am_row M 226 r')) Q := by
        intro r' h1
        rw [b_235_57]
        have := hQ r'
        rw [← he, h1] at this
        exact this
      rw [b_235_2, row_ne _ _ (by decide), hM.n, if_neg (by rw [le_n (by omega) (by omega)]; omega), b_235_12 (by first | exact in_n (by omega) (by omega) | (simp only [li, nI_add, pk_mul]; exact in_n (by omega) (by omega))), cl_n (by omega), hR.w _ hk]
      by_cases h1 : l.w (l.n - (m + 1)) = w
      · rw [if_neg (fun z => z (by rw [h1])), b_235_22 (by first | exact in_n (by omega) (by omega) | (simp only [li, nI_add, pk_mul]; exact in_n (by omega) (by omega))) (by first | exact in_n (by omega) (by omega) | (simp only [li, nI_add, pk_mul]; exact in_n (by omega) (by omega))), cl_n (by omega), hR.h _ hk, hR.t _ hk]
        by_cases h2 : l.h (l.n - (m + 1)) = l.t (l.n - (m + 1))
        · rw [if_pos (by rw [h2])]
          exact stop r (by rw [lnO, if_pos ⟨h1, Or.inl h2⟩])
        · obtain ⟨b, hb⟩ := (hl.c _ hk).resolve_left h2
          rw [if_neg (by rw [eq_n (by omega) (by omega)]; exact h2), b_235_37 (by first | exact in_n (by omega) (by omega) | (simp only [li, nI_add, pk_mul]; exact in_n (by omega) (by omega))) (by first | exact in_n (by omega) (by omega) | (simp only [li, nI_add, pk_mul]; exact in_n (by omega) (by omega))), cl_n (by omega), hR.h _ hk, hR.t _ hk]
          refine m_evl l ak hR (fun a ha => by rw [row_ne _ _ (by decide)]; exact h225 a ha) hht htu h400 hb (fun r' => ?_)
          rw [am_ans_some, b_235_54, row_row]
          by_cases h3 : evl l ak (l.h (l.n - (m + 1))) (l.t (l.n - (m + 1))) = 0
          · rw [if_pos h3]
            exact next r' (by rw [lnO, if_neg (fun z => z.2.elim h2 (fun z => z h3))])
          · rw [if_neg h3]
            exact stop r' (by rw [lnO, if_pos ⟨h1, Or.inr h3⟩])
      · rw [if_pos (by rw [eq_n (by omega) (by omega)]; exact h1)]
        exact next r (by rw [lnO, if_neg (fun z => h1 z.1)])
  rw [b_235_0, ← row_id M 226]
  have := key l.n (M 226) (Nat.le_refl _) rfl
  rw [Nat.sub_self] at this
  exact this
theorem lnO_lt {l : Lw} {ak : Nat → Int32} {w : Nat} : ∀ {m k : Nat}, m ≤ l.n → lnO l ak w m = some k → k < l.n
  | 0, k, _, h => by cases h
  | m + 1, k, hm, h => by
    rw [lnO] at h
    by_cases h1 : l.w (l.n - (m + 1)) = w ∧ (l.h (l.n - (m + 1)) = l.t (l.n - (m + 1)) ∨ ¬ evl l ak (l.h (l.n - (m + 1))) (l.t (l.n - (m + 1))) = 0)
    · rw [if_pos h1] at h
      cases h
      omega
    · rw [if_neg h1] at h
      exact lnO_lt (by omega) h
theorem m_tells {d nS w : Nat} {us lo hi : Int32} {M : am_M} {Q : Option Value → am_H → Prop} (l : Lw) (ak : Nat → Int32) (hl : LwOk l) (hw : w ≤ 2) (hM : MLw M l) (h225 : ∀ a, a < 9 → M 225 a = ak a) (hQ : ∀ r', Q (some (.int (telV l ak w us lo hi))) (hp nS (am_row M 226 r'))) : am_Wp (d + 3) 234 0 [.ref 205, .int (nI w), .int us, .int lo, .int hi, .retAddr 0] [] (hp nS M) Q := by
  have h16 := hl.n16
  have h400 := hl.u400
  rw [b_234_0]
  refine m_lineOf l ak hl hw hM h225 (fun r => ?_)
  have hR := MLw_row hM (a := 226) r (by omega)
  rw [am_ans_some, b_234_5]
  cases ho : lnO l ak w l.n with
  | none =>
    rw [if_neg (fun z => z rfl), b_234_14, b_234_37, c_238, am_ans_some, b_234_43]
    have := hQ r
    unfold telV at this
    rw [ho] at this
    exact this
  | some k =>
    have hk := lnO_lt (Nat.le_refl _) ho
    obtain ⟨b, hb⟩ := hl.e k hk
    have hfh := hl.fh _ hk
    have hht := hl.ht _ hk
    have htu := hl.tu _ hk
    rw [if_pos (show ¬ oI (some k) = -1 from nI_m1 (by omega)), show oI (some k) = nI k from rfl, b_234_18 (by first | exact in_n (by omega) (by omega) | (simp only [li, nI_add, pk_mul]; exact in_n (by omega) (by omega))) (by first | exact in_n (by omega) (by omega) | (simp only [li, nI_add, pk_mul]; exact in_n (by omega) (by omega))), cl_n (by omega), hR.f k hk, hR.h k hk]
    refine m_evl l ak hR (fun a ha => by rw [row_ne _ _ (by decide)]; exact h225 a ha) hfh (by omega) h400 hb (fun r' => ?_)
    rw [am_ans_some, b_234_37, c_238, am_ans_some, b_234_43, row_row]
    have := hQ r'
    unfold telV at this
    rw [ho] at this
    exact this
end
