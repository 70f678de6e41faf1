section
/-! THE LOG AS ROWS: the last made first -/
abbrev RW3 : Type := (Nat × Nat) × List (Option Nat) × List Int32
abbrev LX : Type := Nat × Nat × List RW3
def z3 : RW3 := ((999, 0), [], [])
def sD {α : Type} (z : α) (r : List α) (k : Nat) (v : α) : List α := (r ++ List.replicate (k + 1 - r.length) z).set k v
def lMod {α : Type} : List α → Nat → (α → α) → List α
  | [], _, _ => []
  | r :: l, 0, f => f r :: l
  | r :: l, p + 1, f => r :: lMod l p f
def lL (q : LO) (x : LX) : LX := match q.1 with
  | 0 => (x.1 + 1, x.2.1 + q.2.2.2.1, ((q.2.1, q.2.2.1), [], []) :: x.2.2)
  | 1 => (x.1, x.2.1, lMod x.2.2 (x.1 - 1 - (q.2.1 - 16)) (fun r => (r.1, r.2.1, sD 0 r.2.2 q.2.2.1 q.2.2.2.2)))
  | _ => (x.1, x.2.1, lMod x.2.2 (x.1 - 1 - (q.2.1 - 16)) (fun r => (r.1, sD none r.2.1 q.2.2.1 (some q.2.2.2.1), r.2.2)))
def lOk (q : LO) (n : Nat) : Bool := q.1 == 0 || (Nat.ble 16 q.2.1 && Nat.blt q.2.1 (16 + n))
def rwA (x : LX) (i : Nat) : RW3 := if i < 16 + x.1 then x.2.2.getD (x.1 - 1 - (i - 16)) z3 else z3
def hL (nS : Nat) (xs : Nat → Int32) (x : LX) : am_H := (16 + x.1, x.2.1, fun i => if i < 16 then am_roK nS i else (rwA x i).1, fun i k => if i < 16 then am_roR i k else (rwA x i).2.1.getD k none, fun i k => if i < 16 then am_roM xs i k else (rwA x i).2.2.getD k 0)
theorem sD_at {α : Type} (z : α) (r : List α) (k : Nat) (v : α) (j : Nat) : (sD z r k v).getD j z = if j = k then v else r.getD j z := by
  unfold sD
  rw [List.getD_eq_getElem?_getD, List.getD_eq_getElem?_getD, List.getElem?_set]
  by_cases h : j = k
  · subst h
    rw [if_pos rfl, if_pos rfl, if_pos (by rw [List.length_append, List.length_replicate]; omega)]
    rfl
  · rw [if_neg (fun q => h q.symm), if_neg h]
    by_cases hr : j < r.length
    · rw [List.getElem?_append_left hr]
    · rw [List.getElem?_append_right (by omega), List.getElem?_eq_none (l := r) (by omega), List.getElem?_replicate]
      split <;> rfl
theorem lMod_at {α : Type} (z : α) (f : α → α) : ∀ (l : List α) (p j : Nat), p < l.length → (lMod l p f).getD j z = if j = p then f (l.getD p z) else l.getD j z
  | [], p, j, h => absurd h (Nat.not_lt_zero p)
  | r :: l, 0, j, _ => by
    cases j with
    | zero => rfl
    | succ j => rw [if_neg (by omega)]; rfl
  | r :: l, p + 1, j, h => by
    cases j with
    | zero => rw [if_neg (by omega)]; rfl
    | succ j =>
      have ih := lMod_at z f l p j (by have : p + 1 < l.length + 1 := h; omega)
      show (lMod l p f).getD j z = if j + 1 = p + 1 then f (l.getD p z) else l.getD j z
      rw [ih]
      by_cases e : j = p
      · rw [if_pos e, if_pos (by omega)]
      · rw [if_neg e, if_neg (by omega)]
theorem lMod_len {α : Type} (f : α → α) : ∀ (l : List α) (p : Nat), (lMod l p f).length = l.length
  | [], _ => rfl
  | r :: l, 0 => rfl
  | r :: l, p + 1 => by show (lMod l p f).length + 1 = l.length + 1; rw [lMod_len f l p]
theorem rwA_mod {x : LX} (hx : x.2.2.length = x.1) {a : Nat} (h1 : 16 ≤ a) (h2 : a < 16 + x.1) (f : RW3 → RW3) (s : Nat) (i : Nat) (hi : 16 ≤ i) : rwA (x.1, s, lMod x.2.2 (x.1 - 1 - (a - 16)) f) i = if i = a then f (rwA x a) else rwA x i := by
  unfold rwA
  show (if i < 16 + x.1 then (lMod x.2.2 (x.1 - 1 - (a - 16)) f).getD (x.1 - 1 - (i - 16)) z3 else z3) = _
  rw [if_pos h2]
  by_cases hn : i < 16 + x.1
  · rw [if_pos hn, if_pos hn, lMod_at z3 f _ _ _ (by omega)]
    by_cases e : i = a
    · rw [if_pos e, if_pos (by omega)]
    · rw [if_neg e, if_neg (by omega)]
  · rw [if_neg hn, if_neg hn, if_neg (by omega)]
theorem rwA_make {x : LX} (hx : x.2.2.length = x.1) (r : RW3) (s : Nat) (i : Nat) (hi : 16 ≤ i) : rwA (x.1 + 1, s, r :: x.2.2) i = if i = 16 + x.1 then r else rwA x i := by
  unfold rwA
  show (if i < 16 + (x.1 + 1) then (r :: x.2.2).getD (x.1 + 1 - 1 - (i - 16)) z3 else z3) = _
  by_cases e : i = 16 + x.1
  · rw [if_pos (by omega), if_pos e, show x.1 + 1 - 1 - (i - 16) = 0 by omega]; rfl
  · rw [if_neg e]
    by_cases hn : i < 16 + x.1
    · rw [if_pos (by omega), if_pos hn, show x.1 + 1 - 1 - (i - 16) = (x.1 - 1 - (i - 16)) + 1 by omega]; rfl
    · rw [if_neg (by omega), if_neg hn]
theorem am_H_eq {a b : am_H} (h1 : a.1 = b.1) (h2 : a.2.1 = b.2.1) (h3 : ∀ i, a.2.2.1 i = b.2.2.1 i) (h4 : ∀ i k, a.2.2.2.1 i k = b.2.2.2.1 i k) (h5 : ∀ i k, a.2.2.2.2 i k = b.2.2.2.2 i k) : a = b := by
  obtain ⟨a1, a2, a3, a4, a5⟩ := a
  obtain ⟨b1, b2, b3, b4, b5⟩ := b
  cases h1
  cases h2
  cases (funext h3 : a3 = b3)
  cases (funext fun i => funext (h4 i) : a4 = b4)
  cases (funext fun i => funext (h5 i) : a5 = b5)
  rfl
theorem lL_ok {nS : Nat} {xs : Nat → Int32} {q : LO} {x : LX} (hx : x.2.2.length = x.1) (hq : lOk q x.1 = true) : lAp q (hL nS xs x) = hL nS xs (lL q x) ∧ (lL q x).2.2.length = (lL q x).1 := by
  obtain ⟨t, a, k, b, v⟩ := q
  have hr : t = 0 ∨ (16 ≤ a ∧ a < 16 + x.1) := by
    unfold lOk at hq
    simp only [Bool.or_eq_true, Bool.and_eq_true, beq_iff_eq] at hq
    rcases hq with h | h
    · exact Or.inl h
    · exact Or.inr ⟨Nat.le_of_ble_eq_true h.1, Nat.le_of_ble_eq_true h.2⟩
  rcases t with _ | _ | t
  · refine ⟨am_H_eq rfl rfl (fun i => ?_) (fun i j => ?_) (fun i j => ?_), by show x.2.2.length + 1 = x.1 + 1; rw [hx]⟩
    · show (if i = 16 + x.1 then (a, k) else if i < 16 then am_roK nS i else (rwA x i).1) = if i < 16 then am_roK nS i else (rwA (x.1 + 1, x.2.1 + b, ((a, k), [], []) :: x.2.2) i).1
      by_cases h : i < 16
      · rw [if_pos h, if_pos h, if_neg (by omega)]
      · rw [if_neg h, if_neg h, rwA_make hx _ _ i (by omega)]
        by_cases e : i = 16 + x.1
        · rw [if_pos e, if_pos e]
        · rw [if_neg e, if_neg e]
    · show (if i = 16 + x.1 then (fun _ => none) else fun k => if i < 16 then am_roR i k else (rwA x i).2.1.getD k none) j = if i < 16 then am_roR i j else (rwA (x.1 + 1, x.2.1 + b, ((a, k), [], []) :: x.2.2) i).2.1.getD j none
      by_cases h : i < 16
      · rw [if_neg (by omega), if_pos h]; exact (if_pos h).symm
      · rw [if_neg h, rwA_make hx _ _ i (by omega)]
        by_cases e : i = 16 + x.1
        · rw [if_pos e, if_pos e]; rfl
        · rw [if_neg e, if_neg e]; exact if_neg h
    · show (if i = 16 + x.1 then (fun _ => 0) else fun k => if i < 16 then am_roM xs i k else (rwA x i).2.2.getD k 0) j = if i < 16 then am_roM xs i j else (rwA (x.1 + 1, x.2.1 + b, ((a, k), [], []) :: x.2.2) i).2.2.getD j 0
      by_cases h : i < 16
      · rw [if_neg (by omega), if_pos h]; exact (if_pos h).symm
      · rw [if_neg h, rwA_make hx _ _ i (by omega)]
        by_cases e : i = 16 + x.1
        · rw [if_pos e, if_pos e]; rfl
        · rw [if_neg e, if_neg e]; exact if_neg h
  · have hr : 16 ≤ a ∧ a < 16 + x.1 := hr.resolve_left (by omega)
    refine ⟨am_H_eq rfl rfl (fun i => ?_) (fun i j => ?_) (fun i j => ?_), by show (lMod x.2.2 _ _).length = x.1; rw [lMod_len, hx]⟩
    · show (if i < 16 then am_roK nS i else (rwA x i).1) = if i < 16 then am_roK nS i else (rwA (x.1, x.2.1, lMod x.2.2 (x.1 - 1 - (a - 16)) (fun r => (r.1, r.2.1, sD 0 r.2.2 k v))) i).1
      by_cases h : i < 16
      · rw [if_pos h, if_pos h]
      · rw [if_neg h, if_neg h, rwA_mod hx hr.1 hr.2 _ _ i (by omega)]
        by_cases e : i = a
        · rw [if_pos e, e]
        · rw [if_neg e]
    · show (if i < 16 then am_roR i j else (rwA x i).2.1.getD j none) = if i < 16 then am_roR i j else (rwA (x.1, x.2.1, lMod x.2.2 (x.1 - 1 - (a - 16)) (fun r => (r.1, r.2.1, sD 0 r.2.2 k v))) i).2.1.getD j none
      by_cases h : i < 16
      · rw [if_pos h, if_pos h]
      · rw [if_neg h, if_neg h, rwA_mod hx hr.1 hr.2 _ _ i (by omega)]
        by_cases e : i = a
        · rw [if_pos e, e]
        · rw [if_neg e]
    · show (if i = a then upd (fun k => if a < 16 then am_roM xs a k else (rwA x a).2.2.getD k 0) k v else fun k => if i < 16 then am_roM xs i k else (rwA x i).2.2.getD k 0) j = if i < 16 then am_roM xs i j else (rwA (x.1, x.2.1, lMod x.2.2 (x.1 - 1 - (a - 16)) (fun r => (r.1, r.2.1, sD 0 r.2.2 k v))) i).2.2.getD j 0
      by_cases h : i < 16
      · rw [if_neg (by omega), if_pos h]; exact (if_pos h).symm
      · rw [if_neg h, rwA_mod hx hr.1 hr.2 _ _ i (by omega)]
        by_cases e : i = a
        · rw [if_pos e, if_pos e]
          show _ = (sD 0 (rwA x a).2.2 k v).getD j 0
          rw [sD_at]
          by_cases ek : j = k
          · rw [if_pos ek, ek, upd_same]
          · rw [if_neg ek, upd_ne _ _ ek]; exact if_neg (by omega)
        · rw [if_neg e, if_neg e]; exact if_neg h
  · have hr : 16 ≤ a ∧ a < 16 + x.1 := hr.resolve_left (by omega)
    refine ⟨am_H_eq rfl rfl (fun i => ?_) (fun i j => ?_) (fun i j => ?_), by show (lMod x.2.2 _ _).length = x.1; rw [lMod_len, hx]⟩
    · show (if i < 16 then am_roK nS i else (rwA x i).1) = if i < 16 then am_roK nS i else (rwA (x.1, x.2.1, lMod x.2.2 (x.1 - 1 - (a - 16)) (fun r => (r.1, sD none r.2.1 k (some b), r.2.2))) i).1
      by_cases h : i < 16
      · rw [if_pos h, if_pos h]
      · rw [if_neg h, if_neg h, rwA_mod hx hr.1 hr.2 _ _ i (by omega)]
        by_cases e : i = a
        · rw [if_pos e, e]
        · rw [if_neg e]
    · show (if i = a then va_up (fun k => if a < 16 then am_roR a k else (rwA x a).2.1.getD k none) k (some b) else fun k => if i < 16 then am_roR i k else (rwA x i).2.1.getD k none) j = if i < 16 then am_roR i j else (rwA (x.1, x.2.1, lMod x.2.2 (x.1 - 1 - (a - 16)) (fun r => (r.1, sD none r.2.1 k (some b), r.2.2))) i).2.1.getD j none
      by_cases h : i < 16
      · rw [if_neg (by omega), if_pos h]; exact (if_pos h).symm
      · rw [if_neg h, rwA_mod hx hr.1 hr.2 _ _ i (by omega)]
        by_cases e : i = a
        · rw [if_pos e, if_pos e]
          show _ = (sD none (rwA x a).2.1 k (some b)).getD j none
          rw [sD_at]
          unfold va_up
          by_cases ek : j = k
          · rw [if_pos ek, if_pos ek]
          · rw [if_neg ek, if_neg ek]; exact if_neg (by omega)
        · rw [if_neg e, if_neg e]; exact if_neg h
    · show (if i < 16 then am_roM xs i j else (rwA x i).2.2.getD j 0) = if i < 16 then am_roM xs i j else (rwA (x.1, x.2.1, lMod x.2.2 (x.1 - 1 - (a - 16)) (fun r => (r.1, sD none r.2.1 k (some b), r.2.2))) i).2.2.getD j 0
      by_cases h : i < 16
      · rw [if_pos h, if_pos h]
      · rw [if_neg h, if_neg h, rwA_mod hx hr.1 hr.2 _ _ i (by omega)]
        by_cases e : i = a
        · rw [if_pos e, e]
        · rw [if_neg e]
/-- the rows of a log, and whether all is in range -/
def lI (l : List LO) : LX × Bool := l.foldr (fun q r => (lL q r.1, r.2 && lOk q r.1.1)) ((0, 0, []), true)
theorem h0_L (nS : Nat) (xs : Nat → Int32) : am_h0 nS xs = hL nS xs (0, 0, []) := by
  refine am_H_eq rfl rfl (fun i => ?_) (fun i k => ?_) (fun i k => ?_)
  · show (if i < 16 then am_roK nS i else (999, 0)) = if i < 16 then am_roK nS i else (rwA (0, 0, []) i).1
    by_cases h : i < 16
    · rw [if_pos h, if_pos h]
    · rw [if_neg h, if_neg h]; unfold rwA; rw [if_neg (by show ¬ i < 16 + 0; omega)]; rfl
  · show am_roR i k = if i < 16 then am_roR i k else (rwA (0, 0, []) i).2.1.getD k none
    by_cases h : i < 16
    · rw [if_pos h]
    · rw [if_neg h]; unfold rwA; rw [if_neg (by show ¬ i < 16 + 0; omega)]
      obtain ⟨j, rfl⟩ : ∃ j, i = j + 16 := ⟨i - 16, by omega⟩
      rfl
  · show am_roM xs i k = if i < 16 then am_roM xs i k else (rwA (0, 0, []) i).2.2.getD k 0
    by_cases h : i < 16
    · rw [if_pos h]
    · rw [if_neg h]; unfold rwA; rw [if_neg (by show ¬ i < 16 + 0; omega)]
      obtain ⟨j, rfl⟩ : ∃ j, i = j + 16 := ⟨i - 16, by omega⟩
      rfl
theorem hO_L (nS : Nat) (xs : Nat → Int32) : ∀ l : List LO, (lI l).2 = true → hO nS xs l = hL nS xs (lI l).1 ∧ (lI l).1.2.2.length = (lI l).1.1
  | [], _ => ⟨h0_L nS xs, rfl⟩
  | q :: l, h => by
    have h' : ((lI l).2 && lOk q (lI l).1.1) = true := h
    rw [Bool.and_eq_true] at h'
    obtain ⟨e1, e2⟩ := hO_L nS xs l h'.1
    show lAp q (hO nS xs l) = hL nS xs (lL q (lI l).1) ∧ _
    rw [e1]
    exact lL_ok e2 h'.2
end
