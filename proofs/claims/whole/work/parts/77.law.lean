section
/-! THE LAW: its code, and what it comes to -/
abbrev Cd := Nat × Nat
def Cd.num (v : Nat) : Cd := (0, v)
def Cd.ask (a : Nat) : Cd := (1, a)
def Cd.op (k : Nat) : Cd := (2, k)
def kdO (k : Nat) : Nat := if k = 2 then 27 else if k = 3 then 28 else if k = 4 then 29 else if k = 5 then 30 else if k = 6 then 33 else if k = 7 then 34 else if k = 8 then 35 else if k = 9 then 6 else if k = 10 then 5 else 4
def enc (c : Cd) : Int32 := if c.1 = 0 then nI c.2 else if c.1 = 1 then nI (7 + c.2) ^^^ (-1) else nI (kdO c.2) ^^^ (-1)
def opM (c : Cd) : Int32 := if c.1 = 0 then 0 else if c.1 = 1 then 1 else nI c.2
def arM (c : Cd) : Int32 := if c.1 = 0 then nI c.2 else if c.1 = 1 then nI c.2 else 0
theorem enc_n (v : Nat) : enc (Cd.num v) = nI v := rfl
theorem enc_a (a : Nat) : enc (Cd.ask a) = nI (7 + a) ^^^ (-1) := rfl
theorem enc_o (k : Nat) : enc (Cd.op k) = nI (kdO k) ^^^ (-1) := rfl
theorem opM_n (v : Nat) : opM (Cd.num v) = 0 := rfl
theorem opM_a (v : Nat) : opM (Cd.ask v) = 1 := rfl
theorem opM_o (v : Nat) : opM (Cd.op v) = nI v := rfl
def twoV (k : Nat) (x y : Int32) : Int32 := if k = 2 then x + y else if k = 3 then x - y else if k = 4 then x * y else if k = 5 then x / y else if k = 6 then (if y ≤ x then 0 else 1) else if k = 7 then (if ¬ x = y then 0 else 1) else if k = 8 then (if x ≤ y then 0 else 1) else if k = 10 then x * y else (if x + y ≤ 0 then 0 else 1)
def st1 (ak : Nat → Int32) (c : Cd) (s : List Int32) : List Int32 := if c.1 = 0 then nI c.2 :: s else if c.1 = 1 then ak c.2 :: s else if c.2 = 9 then (match s with
      | x :: s => (1 - x) :: s
      | [] => []) else (match s with
      | y :: x :: s => twoV c.2 x y :: s
      | s => s)
theorem st1_n (ak : Nat → Int32) (v : Nat) (s : List Int32) : st1 ak (Cd.num v) s = nI v :: s := rfl
theorem st1_a (ak : Nat → Int32) (a : Nat) (s : List Int32) : st1 ak (Cd.ask a) s = ak a :: s := rfl
theorem st1_9 (ak : Nat → Int32) (x : Int32) (s : List Int32) : st1 ak (Cd.op 9) (x :: s) = (1 - x) :: s := rfl
/-- kinds of what lies on the stack: 0 a number, 1 a yes or no, 2 a number that is not 0 -/
def Ty (c : Cd) (t t' : List Nat) : Prop := (∃ v, c = Cd.num v ∧ t.length ≤ 29 ∧ v ≤ 9999 ∧ t' = (if v = 0 then 0 else 2) :: t) ∨ (∃ a, c = Cd.ask a ∧ a < 9 ∧ t.length ≤ 29 ∧ t' = 0 :: t) ∨ (c = Cd.op 9 ∧ ∃ u, t = 1 :: u ∧ t' = 1 :: u) ∨ (∃ k b a u, c = Cd.op k ∧ t = b :: a :: u ∧ (((k = 2 ∨ k = 3 ∨ k = 4) ∧ b ≠ 1 ∧ a ≠ 1 ∧ t' = 0 :: u) ∨ (k = 5 ∧ b = 2 ∧ a ≠ 1 ∧ t' = 0 :: u) ∨ ((k = 6 ∨ k = 7 ∨ k = 8) ∧ b ≠ 1 ∧ a ≠ 1 ∧ t' = 1 :: u) ∨ ((k = 10 ∨ k = 11) ∧ b = 1 ∧ a = 1 ∧ t' = 1 :: u)))
def TyR (cs : Nat → Cd) : Nat → Nat → List Nat → List Nat → Prop
  | 0, _, t, t' => t = t'
  | m + 1, i, t, t' => ∃ t1, Ty (cs i) t t1 ∧ TyR cs m (i + 1) t1 t'
def VT : List Int32 → List Nat → Prop
  | [], [] => True
  | x :: s, b :: t => (b = 1 → x = 0 ∨ x = 1) ∧ (b = 2 → ¬ x = 0) ∧ VT s t
  | [], _ :: _ => False
  | _ :: _, [] => False
theorem VT_len : ∀ {s : List Int32} {t : List Nat}, VT s t → s.length = t.length
  | [], [], _ => rfl
  | x :: s, b :: t, h => by rw [List.length_cons, List.length_cons, VT_len h.2.2]
  | [], _ :: _, h => h.elim
  | _ :: _, [], h => h.elim
def rnS (cs : Nat → Cd) (ak : Nat → Int32) : Nat → Nat → List Int32 → List Int32
  | 0, _, s => s
  | m + 1, i, s => rnS cs ak m (i + 1) (st1 ak (cs i) s)
def SR (r : Nat → Int32) : List Int32 → Prop
  | [] => True
  | x :: s => r s.length = x ∧ SR r s
theorem SR_up {r : Nat → Int32} {k : Nat} {v : Int32} : ∀ {s : List Int32}, SR r s → s.length ≤ k → SR (upd r k v) s
  | [], _, _ => trivial
  | x :: s, h, hk => by
    rw [List.length_cons] at hk
    exact ⟨by rw [upd_ne _ _ (by omega)]; exact h.1, SR_up h.2 (by omega)⟩
theorem SR_put {r : Nat → Int32} {v : Int32} {s : List Int32} (h : SR r s) : SR (upd r s.length v) (v :: s) := ⟨upd_same _ _ _, SR_up h (Nat.le_refl _)⟩
theorem two_bo {k : Nat} (hk : k = 10 ∨ k = 11) {x y : Int32} (hx : x = 0 ∨ x = 1) (hy : y = 0 ∨ y = 1) : twoV k x y = 0 ∨ twoV k x y = 1 := by
  rcases hk with rfl | rfl <;> rcases hx with rfl | rfl <;> rcases hy with rfl | rfl <;> decide
theorem two_cp {k : Nat} (hk : k = 6 ∨ k = 7 ∨ k = 8) (x y : Int32) : twoV k x y = 0 ∨ twoV k x y = 1 := by
  rcases hk with rfl | rfl | rfl
  · show (if y ≤ x then (0 : Int32) else 1) = 0 ∨ (if y ≤ x then (0 : Int32) else 1) = 1
    by_cases h : y ≤ x
    · rw [if_pos h]; exact Or.inl rfl
    · rw [if_neg h]; exact Or.inr rfl
  · show (if ¬ x = y then (0 : Int32) else 1) = 0 ∨ (if ¬ x = y then (0 : Int32) else 1) = 1
    by_cases h : x = y
    · rw [if_neg (fun z => z h)]; exact Or.inr rfl
    · rw [if_pos h]; exact Or.inl rfl
  · show (if x ≤ y then (0 : Int32) else 1) = 0 ∨ (if x ≤ y then (0 : Int32) else 1) = 1
    by_cases h : x ≤ y
    · rw [if_pos h]; exact Or.inl rfl
    · rw [if_neg h]; exact Or.inr rfl
theorem st1_2 (ak : Nat → Int32) {k : Nat} (hk : ¬ k = 9) (x y : Int32) (s : List Int32) : st1 ak (Cd.op k) (y :: x :: s) = twoV k x y :: s := if_neg hk
theorem VT_step (ak : Nat → Int32) {c : Cd} {t t' : List Nat} (h : Ty c t t') : ∀ {s : List Int32}, VT s t → VT (st1 ak c s) t' := by
  rcases h with ⟨v, rfl, hl, hv, rfl⟩ | ⟨a, rfl, ha, hl, rfl⟩ | ⟨rfl, u, rfl, rfl⟩ | ⟨k, b, a, u, rfl, rfl, h⟩
  · intro s hs
    rw [st1_n]
    refine ⟨fun h => ?_, fun h => ?_, hs⟩
    · by_cases e : v = 0
      · rw [if_pos e] at h; omega
      · rw [if_neg e] at h; omega
    · by_cases e : v = 0
      · rw [if_pos e] at h; omega
      · exact nI_ne0 (by omega) (by omega)
  · intro s hs
    rw [st1_a]
    exact ⟨fun h => by omega, fun h => by omega, hs⟩
  · intro s hs
    cases s with
    | nil => exact hs.elim
    | cons x s =>
      rw [st1_9]
      refine ⟨fun _ => ?_, fun h => by omega, hs.2.2⟩
      rcases hs.1 rfl with rfl | rfl
      · exact Or.inr (by decide)
      · exact Or.inl (by decide)
  · intro s hs
    cases s with
    | nil => exact hs.elim
    | cons y s => cases s with
      | nil => exact hs.2.2.elim
      | cons x s =>
        rw [st1_2 ak (by omega)]
        rcases h with ⟨_, _, _, rfl⟩ | ⟨_, _, _, rfl⟩ | ⟨hk, _, _, rfl⟩ | ⟨hk, rfl, rfl, rfl⟩
        · exact ⟨fun h => by omega, fun h => by omega, hs.2.2.2.2⟩
        · exact ⟨fun h => by omega, fun h => by omega, hs.2.2.2.2⟩
        · exact ⟨fun _ => two_cp hk x y, fun h => by omega, hs.2.2.2.2⟩
        · exact ⟨fun _ => two_bo hk (hs.2.2.1 rfl) (hs.1 rfl), fun h => by omega, hs.2.2.2.2⟩
theorem tV2 (x y : Int32) : twoV 2 x y = x + y := rfl
theorem tV3 (x y : Int32) : twoV 3 x y = x - y := rfl
theorem tV4 (x y : Int32) : twoV 4 x y = x * y := rfl
theorem tV5 (x y : Int32) : twoV 5 x y = x / y := rfl
theorem tV6 (x y : Int32) : twoV 6 x y = if y ≤ x then 0 else 1 := rfl
theorem tV7 (x y : Int32) : twoV 7 x y = if ¬ x = y then 0 else 1 := rfl
theorem tV8 (x y : Int32) : twoV 8 x y = if x ≤ y then 0 else 1 := rfl
theorem tV10 (x y : Int32) : twoV 10 x y = x * y := rfl
theorem tV11 (x y : Int32) : twoV 11 x y = if x + y ≤ 0 then 0 else 1 := rfl
/-- which joins may stand, over which two -/
def okJ (k : Nat) (x y : Int32) : Prop := (k = 2 ∨ k = 3 ∨ k = 4 ∨ k = 6 ∨ k = 7 ∨ k = 8) ∨ (k = 5 ∧ ¬ y = 0) ∨ ((k = 10 ∨ k = 11) ∧ (x = 0 ∨ x = 1) ∧ (y = 0 ∨ y = 1))
theorem x_two {d nS k : Nat} {x y : Int32} {M : am_M} {Q : Option Value → am_H → Prop} (h : okJ k x y) : am_Wp d 23 0 [.int (nI (kdO k)), .int x, .int y] [] (hp nS M) Q = Q (some (.int (twoV k x y))) (hp nS M) := by
  rw [b_23_0]
  rcases h with (rfl | rfl | rfl | rfl | rfl | rfl) | ⟨rfl, hy⟩ | ⟨rfl | rfl, hx, hy⟩
  · rw [if_neg (by decide), if_pos (by decide), b_23_76, tV2]
  · rw [if_neg (by decide), if_neg (by decide), if_pos (by decide), b_23_80, tV3]
  · rw [if_neg (by decide), if_neg (by decide), if_neg (by decide), if_pos (by decide), b_23_84, tV4]
  · rw [if_neg (by decide), if_neg (by decide), if_neg (by decide), if_neg (by decide), if_neg (by decide), if_pos (by decide), b_23_100, tV6]
    by_cases h : y ≤ x
    · rw [if_pos h, if_pos h, b_23_109, b_23_110]
    · rw [if_neg h, if_neg h, b_23_105, b_23_110]
  · rw [if_neg (by decide), if_neg (by decide), if_neg (by decide), if_neg (by decide), if_neg (by decide), if_neg (by decide), if_pos (by decide), b_23_111, tV7]
    by_cases h : x = y
    · rw [if_neg (fun z => z h), if_neg (fun z => z h), b_23_116, b_23_121]
    · rw [if_pos h, if_pos h, b_23_120, b_23_121]
  · rw [if_neg (by decide), if_neg (by decide), if_neg (by decide), if_neg (by decide), if_neg (by decide), if_neg (by decide), if_neg (by decide), if_pos (by decide), b_23_122, tV8]
    by_cases h : x ≤ y
    · rw [if_pos h, if_pos h, b_23_131, b_23_132]
    · rw [if_neg h, if_neg h, b_23_127, b_23_132]
  · rw [if_neg (by decide), if_neg (by decide), if_neg (by decide), if_neg (by decide), if_pos (by decide), b_23_88, if_pos hy, b_23_96 hy, b_23_99, tV5]
  · rw [if_pos (by decide), b_23_133, tV10]
    rcases hx with rfl | rfl <;> rcases hy with rfl | rfl <;> rfl
  · rw [if_neg (by decide), if_neg (by decide), if_neg (by decide), if_neg (by decide), if_neg (by decide), if_neg (by decide), if_neg (by decide), if_neg (by decide), b_23_137, tV11]
    rcases hx with rfl | rfl <;> rcases hy with rfl | rfl <;> rfl
theorem m_two {d nS k : Nat} {x y : Int32} {M : am_M} {Q : Option Value → am_H → Prop} (h : okJ k x y) : am_Wp d 237 0 [.ref 205, .int (nI k), .int x, .int y] [] (hp nS M) Q = Q (some (.int (twoV k x y))) (hp nS M) := by
  rw [b_237_0]
  rcases h with (rfl | rfl | rfl | rfl | rfl | rfl) | ⟨rfl, hy⟩ | ⟨rfl | rfl, hx, hy⟩
  · rw [if_neg (fun z => z rfl), b_237_5, tV2]
  · rw [if_pos (by decide), b_237_9, if_neg (fun z => z rfl), b_237_14, tV3]
  · rw [if_pos (by decide), b_237_9, if_pos (by decide), b_237_18, if_neg (fun z => z rfl), b_237_23, tV4]
  · rw [if_pos (by decide), b_237_9, if_pos (by decide), b_237_18, if_pos (by decide), b_237_27, if_pos (by decide), b_237_36, if_neg (fun z => z rfl), b_237_42, tV6]
    by_cases h : y ≤ x
    · rw [if_pos h, if_pos h, b_237_51, b_237_52]
    · rw [if_neg h, if_neg h, b_237_47, b_237_52]
  · rw [if_pos (by decide), b_237_9, if_pos (by decide), b_237_18, if_pos (by decide), b_237_27, if_pos (by decide), b_237_36, if_pos (by decide), b_237_53, if_neg (fun z => z rfl), b_237_59, tV7]
    by_cases h : x = y
    · rw [if_neg (fun z => z h), if_neg (fun z => z h), b_237_64, b_237_69]
    · rw [if_pos h, if_pos h, b_237_68, b_237_69]
  · rw [if_pos (by decide), b_237_9, if_pos (by decide), b_237_18, if_pos (by decide), b_237_27, if_pos (by decide), b_237_36, if_pos (by decide), b_237_53, if_pos (by decide), b_237_70, if_neg (fun z => z rfl), b_237_76, tV8]
    by_cases h : x ≤ y
    · rw [if_pos h, if_pos h, b_237_85, b_237_86]
    · rw [if_neg h, if_neg h, b_237_81, b_237_86]
  · rw [if_pos (by decide), b_237_9, if_pos (by decide), b_237_18, if_pos (by decide), b_237_27, if_neg (fun z => z rfl), b_237_32 hy, tV5]
  · rw [if_pos (by decide), b_237_9, if_pos (by decide), b_237_18, if_pos (by decide), b_237_27, if_pos (by decide), b_237_36, if_pos (by decide), b_237_53, if_pos (by decide), b_237_70, if_pos (by decide), b_237_87, if_neg (fun z => z rfl), b_237_93, b_237_110, tV10]
  · rw [if_pos (by decide), b_237_9, if_pos (by decide), b_237_18, if_pos (by decide), b_237_27, if_pos (by decide), b_237_36, if_pos (by decide), b_237_53, if_pos (by decide), b_237_70, if_pos (by decide), b_237_87, if_pos (by decide), b_237_99, tV11]
    by_cases h : x + y ≤ 0
    · rw [if_pos h, if_pos h, b_237_109, b_237_110]
    · rw [if_neg h, if_neg h, b_237_105, b_237_110]
theorem kd_enc : ∀ k, k < 64 → ¬ (0 : Int32) ≤ (nI k ^^^ (-1)) ∧ (nI k ^^^ (-1)) ^^^ (-1) = nI k := by decide +kernel
theorem kdO_lt (k : Nat) : kdO k < 64 := by
  unfold kdO
  repeat (first | (split; omega) | omega | split)
/-- the joins of a code: which, and that two lie there -/
theorem ty_two {c : Cd} {t t' : List Nat} (h : Ty c t t') : (∃ v, c = Cd.num v ∧ t.length ≤ 29 ∧ v ≤ 9999) ∨ (∃ a, c = Cd.ask a ∧ a < 9 ∧ t.length ≤ 29) ∨ (c = Cd.op 9 ∧ ∃ u, t = 1 :: u) ∨ ∃ k b a u, c = Cd.op k ∧ t = b :: a :: u ∧ ¬ k = 9 ∧ ((k = 2 ∨ k = 3 ∨ k = 4 ∨ k = 6 ∨ k = 7 ∨ k = 8) ∨ (k = 5 ∧ b = 2) ∨ ((k = 10 ∨ k = 11) ∧ a = 1 ∧ b = 1)) := by
  rcases h with ⟨v, rfl, hl, hv, rfl⟩ | ⟨a, rfl, ha, hl, rfl⟩ | ⟨rfl, u, rfl, rfl⟩ | ⟨k, b, a, u, rfl, rfl, h⟩
  · exact Or.inl ⟨v, rfl, hl, hv⟩
  · exact Or.inr (Or.inl ⟨a, rfl, ha, hl⟩)
  · exact Or.inr (Or.inr (Or.inl ⟨rfl, u, rfl⟩))
  · exact Or.inr (Or.inr (Or.inr ⟨k, b, a, u, rfl, rfl, by omega, by omega⟩))
theorem okJ_of {k a b : Nat} {x y : Int32} {s : List Int32} {u : List Nat} (hv : VT (y :: x :: s) (b :: a :: u)) (h : (k = 2 ∨ k = 3 ∨ k = 4 ∨ k = 6 ∨ k = 7 ∨ k = 8) ∨ (k = 5 ∧ b = 2) ∨ ((k = 10 ∨ k = 11) ∧ a = 1 ∧ b = 1)) : okJ k x y := by
  rcases h with h | ⟨h, h2⟩ | ⟨h, h1, h2⟩
  · exact Or.inl h
  · exact Or.inr (Or.inl ⟨h, hv.2.1 h2⟩)
  · exact Or.inr (Or.inr ⟨h, hv.2.2.1 h1, hv.1 h2⟩)
theorem kd_not9 {k : Nat} (h : (k = 2 ∨ k = 3 ∨ k = 4 ∨ k = 6 ∨ k = 7 ∨ k = 8) ∨ k = 5 ∨ (k = 10 ∨ k = 11)) : (nI (kdO k) < 7 ∨ (15 : Int32) < nI (kdO k)) ∧ ¬ nI (kdO k) = 6 ∧ ¬ nI k = 0 ∧ ¬ nI k = 1 ∧ ¬ nI k = 9 := by
  rcases h with (rfl | rfl | rfl | rfl | rfl | rfl) | rfl | (rfl | rfl) <;> decide
/-- what is typed from an empty stack never lies deep -/
def okL (t : List Nat) : Prop := t.length ≤ 30
theorem ty_okL {c : Cd} {t t' : List Nat} (h : Ty c t t') (ht : okL t) : okL t' := by
  unfold okL at *
  rcases h with ⟨v, rfl, hl, hv, rfl⟩ | ⟨a, rfl, ha, hl, rfl⟩ | ⟨rfl, u, rfl, rfl⟩ | ⟨k, b, a, u, rfl, rfl, h⟩
  · rw [List.length_cons]; omega
  · rw [List.length_cons]; omega
  · exact ht
  · rw [List.length_cons, List.length_cons] at ht
    rcases h with ⟨_, _, _, rfl⟩ | ⟨_, _, _, rfl⟩ | ⟨hk, _, _, rfl⟩ | ⟨hk, rfl, rfl, rfl⟩ <;> rw [List.length_cons] <;> omega
theorem x_code {d nS j : Nat} {x1 : Int32} {M : am_M} {Q : Option Value → am_H → Prop} (cs : Nat → Cd) (ak : Nat → Int32) (h36 : ∀ i, i < j → M 36 i = enc (cs i)) (h37 : ∀ a, a < 9 → M 37 a = ak a) (hj : j ≤ 400) : ∀ (m i : Nat) (s : List Int32) (t : List Nat) (b : Nat) (r : Nat → Int32) (z5 z6 z7 : Value), i + m = j → TyR cs m i t [b] → okL t → VT s t → SR r s → (∀ r', Q (some (.int ((rnS cs ak m i s).headD 0))) (hp nS (am_row M 38 r'))) → am_Wp (d + 1) 22 5 [.ref 31, .int x1, .int (nI j), .int (nI s.length), .int (nI i), z5, z6, z7] [] (hp nS (am_row M 38 r)) Q := by
  intro m
  induction m with
  | zero =>
    intro i s t b r z5 z6 z7 hi ht ho hv hs hQ
    have ht : t = [b] := ht
    subst ht
    rw [b_22_5, if_pos (by rw [le_n (by omega) (by omega)]; omega), b_22_182, row_same]
    cases s with
    | nil => exact hv.elim
    | cons x s => cases s with
      | cons _ _ => exact hv.2.2.elim
      | nil =>
        have e : r 0 = x := hs.1
        rw [e]
        exact hQ r
  | succ m ih =>
    intro i s t b r z5 z6 z7 hi ht ho hv hs hQ
    obtain ⟨t1, h1, h2⟩ := ht
    have hv1 := VT_step ak h1 hv
    have hl := VT_len hv
    have go : ∀ (r' : Nat → Int32) (x5 x6 x7 : Int32), SR r' (st1 ak (cs i) s) → am_Wp (d + 1) 22 176 [.ref 31, .int x1, .int (nI j), .int (nI (st1 ak (cs i) s).length), .int (nI i), .int x5, .int x6, .int x7] [] (hp nS (am_row M 38 r')) Q := by
      intro r' x5 x6 x7 hr'
      rw [b_22_176, nI_1]
      exact ih (i + 1) _ t1 b r' _ _ _ (by omega) h2 (ty_okL h1 ho) hv1 hr' hQ
    rw [b_22_5, if_neg (by rw [le_n (by omega) (by omega)]; omega), b_22_11, if_neg (by rw [li, le_n (by omega) (by omega)]; omega), b_22_19 (by first | exact in_n (by omega) (by omega) | (simp only [li, nI_add, pk_mul]; exact in_n (by omega) (by omega))), cl_n (by omega), row_ne _ _ (by decide), h36 i (by omega)]
    rcases ty_two h1 with ⟨v, hc, hl29, hv9⟩ | ⟨a, hc, ha, hl29⟩ | ⟨hc, u, hu⟩ | ⟨k, bb, aa, u, hc, hu, hk9, hk⟩
    · rw [hc] at go ⊢
      rw [st1_n] at go
      rw [if_pos (show (0 : Int32) ≤ enc (Cd.num v) by rw [enc_n, li, le_n (by omega) (by omega)]; omega), b_22_53, b_22_58, if_neg (by decide), b_22_65, if_neg (by rw [li, le_n (by omega) (by omega)]; omega), b_22_71, if_neg (show ¬ enc (Cd.num v) < 0 by rw [enc_n, li, lt_n (by omega) (by omega)]; omega), b_22_81, b_22_96 (by first | exact in_n (by omega) (by omega) | (simp only [li, nI_add, pk_mul]; exact in_n (by omega) (by omega))), cl_n (by omega), up_row, nI_1]
      exact go _ _ _ _ (SR_put hs)
    · rw [hc] at go ⊢
      rw [st1_a] at go
      obtain ⟨e1, e2⟩ := kd_enc (7 + a) (by omega)
      rw [if_neg (show ¬ (0 : Int32) ≤ enc (Cd.ask a) from e1), show enc (Cd.ask a) ^^^ (-1) = nI (7 + a) from e2, b_22_39, if_neg (by rw [li, lt_n (by omega) (by omega)]; omega), b_22_46, if_neg (by rw [li, lt_n (by omega) (by omega)]; omega), b_22_53, b_22_58, if_neg (by decide), b_22_65, if_neg (by rw [li, le_n (by omega) (by omega)]; omega), b_22_71, if_pos (show enc (Cd.ask a) < 0 from lt_of' e1)]
      have es : nI (7 + a) - 7 = nI a := by rw [show (7 : Int32) = nI 7 from rfl, sub_n (by omega)]; congr 1; omega
      rw [b_22_86 (by rw [es]; exact in_n ha (by omega)), es, cl_n (by omega), row_ne _ _ (by decide), h37 a ha, b_22_96 (by first | exact in_n (by omega) (by omega) | (simp only [li, nI_add, pk_mul]; exact in_n (by omega) (by omega))), cl_n (by omega), up_row, nI_1]
      exact go _ _ _ _ (SR_put hs)
    · rw [hc] at go ⊢
      subst hu
      cases s with
      | nil => exact hv.elim
      | cons x s =>
        rw [st1_9] at go
        have hx : r s.length = x := hs.1
        have e1 : nI (x :: s).length - 1 = nI s.length := by rw [List.length_cons, sub1 (by omega)]; rfl
        have e3 : s.length < 32 := by
          have := VT_len hv
          unfold okL at ho
          rw [List.length_cons] at this
          omega
        obtain ⟨e1', e2'⟩ := kd_enc 6 (by omega)
        rw [if_neg (show ¬ (0 : Int32) ≤ enc (Cd.op 9) from e1'), show enc (Cd.op 9) ^^^ (-1) = nI 6 from e2', b_22_39, if_pos (by decide), b_22_57, b_22_58, if_pos rfl, b_22_103, if_neg (fun z => z rfl), b_22_110, if_neg (by rw [List.length_cons, li, lt_n (by omega) (by omega)]; omega), b_22_115 (by rw [e1]; exact in_n e3 (by omega)) (by rw [e1]; exact in_n e3 (by omega)), e1, cl_n (by omega), row_same, hx, up_row]
        exact go _ _ _ _ (SR_put hs.2)
    · rw [hc] at go ⊢
      subst hu
      cases s with
      | nil => exact hv.elim
      | cons y s => cases s with
        | nil => exact hv.2.2.elim
        | cons x s =>
          have hy : r (s.length + 1) = y := hs.1
          have hx : r s.length = x := hs.2.1
          have e0 : (y :: x :: s).length = s.length + 2 := rfl
          have e1 : nI (y :: x :: s).length + -1 = nI (s.length + 1) := by rw [e0, add_m1, sub1 (by omega)]; rfl
          have e2 : nI (s.length + 1) - 1 = nI s.length := by rw [sub1 (by omega)]; rfl
          have e3 : s.length + 1 < 32 := by
            have := VT_len hv
            unfold okL at ho
            rw [e0] at this
            omega
          obtain ⟨e1', e2'⟩ := kd_enc (kdO k) (kdO_lt k)
          obtain ⟨q1, q2, _⟩ := kd_not9 (k := k) (by omega)
          have hno : ∀ x7 : Int32, x7 = 0 → am_Wp (d + 1) 22 103 [.ref 31, .int x1, .int (nI j), .int (nI (y :: x :: s).length), .int (nI i), .int (enc (Cd.op k)), .int (nI (kdO k)), .int x7] [] (hp nS (am_row M 38 r)) Q := by
            intro x7 h7
            subst h7
            rw [b_22_103, if_pos q2, b_22_136, if_neg (fun z => z rfl), b_22_141, if_neg (by rw [e0, li, lt_n (by omega) (by omega)]; omega), b_22_146 (by rw [e1, e2]; exact in_n (by omega) (by omega)) (by rw [e1]; exact in_n e3 (by omega)), e1, e2, cl_n (by omega), cl_n (by omega), row_same, hx, hy, x_two (okJ_of hv hk), am_ans_some, b_22_175 (by first | exact in_n (by omega) (by omega) | (simp only [li, nI_add, pk_mul]; exact in_n (by omega) (by omega))), cl_n (by omega), up_row]
            have := go (upd r s.length (twoV k x y)) (enc (Cd.op k)) (nI (kdO k)) 0
            rw [st1_2 ak hk9] at this
            exact this (SR_put hs.2.2)
          rw [if_neg (show ¬ (0 : Int32) ≤ enc (Cd.op k) from e1'), show enc (Cd.op k) ^^^ (-1) = nI (kdO k) from e2', b_22_39]
          rcases q1 with q1 | q1
          · rw [if_pos q1, b_22_57, b_22_58, if_pos rfl]
            exact hno 0 rfl
          · by_cases q3 : nI (kdO k) < 7
            · rw [if_pos q3, b_22_57, b_22_58, if_pos rfl]
              exact hno 0 rfl
            · rw [if_neg q3, b_22_46, if_pos q1, b_22_57, b_22_58, if_pos rfl]
              exact hno 0 rfl
end
