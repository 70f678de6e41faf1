section
/-! WHAT A DAY LEAVES ALONE -/
abbrev ddx (x : Cx) (j : Nat) : Prop := (4 ≤ j) ∧ (¬ (28 ≤ j ∧ j < 46)) ∧ (∀ i, i < x.L → j ≠ 4 + i ∧ j ≠ 10 + i ∧ j ≠ 16 + i ∧ j ≠ 22 + i) ∧ (∀ t, t < x.T → j ≠ 46 + t) ∧ (∀ t g, t < x.T → g < x.G → j ≠ 56 + (8 * t + g))
theorem ddx.a {x : Cx} {j : Nat} (zz : ddx x j) : 4 ≤ j := zz.1
theorem ddx.b {x : Cx} {j : Nat} (zz : ddx x j) : ¬ (28 ≤ j ∧ j < 46) := zz.2.1
theorem ddx.l {x : Cx} {j : Nat} (zz : ddx x j) : ∀ i, i < x.L → j ≠ 4 + i ∧ j ≠ 10 + i ∧ j ≠ 16 + i ∧ j ≠ 22 + i := zz.2.2.1
theorem ddx.r {x : Cx} {j : Nat} (zz : ddx x j) : ∀ t, t < x.T → j ≠ 46 + t := zz.2.2.2.1
theorem ddx.s {x : Cx} {j : Nat} (zz : ddx x j) : ∀ t g, t < x.T → g < x.G → j ≠ 56 + (8 * t + g) := zz.2.2.2.2
theorem dd_dw {x : Cx} {j : Nat} (h : ddx x j) {dn : Dn} (hk : DnOk x dn) {i : Nat} (hi : i < dn.n) (W : Rw) : dwS dn i W j = W j := by
  have h1 := h.a
  unfold dwS
  by_cases c : nI (dn.day i) = W 0
  · rw [if_pos c]
    unfold dwD
    by_cases c3 : dn.kd i = 3
    · rw [if_neg (by omega), if_neg (by omega), if_pos c3]; exact upd_ne _ _ (by omega)
    · have hl := h.l _ (hk.wo i hi c3)
      by_cases c0 : dn.kd i = 0
      · rw [if_pos c0]; exact upd_ne _ _ hl.2.2.2
      · rw [if_neg c0]
        by_cases c1 : dn.kd i = 1
        · rw [if_pos c1]; exact upd_ne _ _ hl.2.2.2
        · rw [if_neg c1, if_neg c3]
          by_cases cl : W (16 + dn.wo i) = 1
          · rw [if_pos cl, upd_ne _ _ hl.1, upd_ne _ _ hl.2.2.1]
          · rw [if_neg cl]
  · rw [if_neg c]
theorem dd_dwI {x : Cx} {j : Nat} (h : ddx x j) {dn : Dn} (hk : DnOk x dn) (W : Rw) : ∀ n, n ≤ dn.n → itr (dwS dn) W n j = W j
  | 0, _ => rfl
  | n + 1, hn => by rw [itr_s, dd_dw h hk (by omega)]; exact dd_dwI h hk W n (by omega)
theorem dd_sgE {x : Cx} {j : Nat} (h : ddx x j) {i : Nat} (hi : i < x.L) (th f : Bool) (p : Rw × Rw) : (sgE th i f p).1 j = p.1 j := by
  have h1 := h.a
  have hl := h.l i hi
  unfold sgE
  show upd _ (22 + i) _ j = _
  rw [upd_ne _ _ hl.2.2.2]
  by_cases c : f = true
  · simp only [if_pos c]; exact nt_p _ _ _ _ _ (by omega)
  · simp only [if_neg c]
    by_cases c2 : p.1 (4 + i) < 500
    · simp only [if_pos c2]
    · simp only [if_neg c2]; rw [nt_p _ _ _ _ _ (by omega)]; exact upd_ne _ _ hl.2.2.1
theorem dd_sng {x : Cx} {j : Nat} (h : ddx x j) {i : Nat} (hi : i < x.L) (l : Lw) (th : Bool) (p : Rw × Rw) : (sng l x th i p).1.1 j = p.1 j := by
  have h1 := h.a
  have hl := h.l i hi
  unfold sng
  show (sgE th i _ _).1 j = _
  rw [dd_sgE h hi]
  show (sgM l x th i 30 (upd p.1 (4 + i) 0)).1 j = _
  rw [sgM_j _ _ _ _ _ (by omega) (by omega) (by omega), upd_ne _ _ (by omega)]
theorem dd_sgI {x : Cx} {j : Nat} (h : ddx x j) (l : Lw) (th : Bool) (q : (Rw × Rw) × Nat) : ∀ n, n ≤ x.L → (itr (sgS l x th) q n).1.1 j = q.1.1 j
  | 0, _ => rfl
  | n + 1, hn => by
    rw [itr_s, ← dd_sgI h l th q n (by omega)]
    generalize itr (sgS l x th) q n = u
    unfold sgS
    by_cases c : u.1.1 (16 + n) = 1
    · rw [if_pos c]
    · rw [if_neg c]; exact dd_sng h (by omega) _ _ _
theorem dd_chI {x : Cx} {j : Nat} (h : ddx x j) (l : Lw) (W : Rw) : ∀ n, n ≤ x.G → x.G ≤ 8 → itr (chS l x) W n j = W j
  | 0, _, _ => rfl
  | n + 1, hn, h8 => by
    rw [itr_s, ← dd_chI h l W n (by omega) h8]
    generalize itr (chS l x) W n = u
    unfold chS
    have hb := h.b
    by_cases c : x.up n = 0 ∨ ¬ u (16 + (x.up n - 1)) = 1
    · rw [if_pos c]; exact upd_ne _ _ (by omega)
    · rw [if_neg c]
theorem dd_trP {x : Cx} {j : Nat} (h : ddx x j) {t g : Nat} (ht : t < x.T) (hg : g < x.G) (hT : x.T ≤ 10) (th bu : Bool) (n : Nat) (p : Rw × Rw) : (trP th t g bu n p).1 j = p.1 j := by
  have h1 := h.a
  have hb := h.b
  unfold trP
  by_cases c : trN p.1 t g bu n = 0
  · rw [if_pos c]
  · rw [if_neg c, nt_p _ _ _ _ _ (by omega)]
    show trW p.1 t g bu _ j = _
    unfold trW
    rw [upd_ne _ _ (h.s t g ht hg), upd_ne _ _ (by omega)]
theorem dd_trI {x : Cx} {j : Nat} (h : ddx x j) {tr : Tr} (hk : TrOk x tr) (hT : x.T ≤ 10) (th : Bool) (p : Rw × Rw) : ∀ n, n ≤ tr.n → (itr (trS th tr) p n).1 j = p.1 j
  | 0, _ => rfl
  | n + 1, hn => by
    rw [itr_s, ← dd_trI h hk hT th p n (by omega)]
    generalize itr (trS th tr) p n = u
    unfold trS
    by_cases c : nI (tr.day n) = u.1 0 ∧ ¬ u.1 (46 + tr.wo n) = 1
    · rw [if_pos c]; exact dd_trP h (hk.wo n (by omega)) (hk.gd n (by omega)) hT _ _ _ _
    · rw [if_neg c]
theorem dd_ruI {x : Cx} {j : Nat} (h : ddx x j) (th : Bool) (p : Rw × Rw) : ∀ n, n ≤ x.T → (itr (ruS th x) p n).1 j = p.1 j
  | 0, _ => rfl
  | n + 1, hn => by
    rw [itr_s, ← dd_ruI h th p n (by omega)]
    generalize itr (ruS th x) p n = u
    have h1 := h.a
    unfold ruS
    by_cases c : ¬ u.1 (46 + n) = 1 ∧ brkD u.1 x n = true
    · rw [if_pos c, nt_p _ _ _ _ _ (by omega)]; exact upd_ne _ _ (h.r n (by omega))
    · rw [if_neg c]
theorem dd_day {x : Cx} {j : Nat} (h : ddx x j) {dn : Dn} (hd : DnOk x dn) {tr : Tr} (hk : TrOk x tr) (hT : x.T ≤ 10) (hG : x.G ≤ 8) (l : Lw) (th : Bool) (p : Rw × Rw) : (dayP l x dn tr th p).1 j = p.1 j := by
  have h1 := h.a
  show upd (dy3 l x dn tr th p).1 0 ((dy3 l x dn tr th p).1 0 + 1) j = _
  rw [upd_ne _ _ (by omega)]
  show (itr (ruS th x) (itr (trS th tr) (dy2 l x dn th p) tr.n) x.T).1 j = _
  rw [dd_ruI h th _ _ (Nat.le_refl _), dd_trI h hk hT th _ _ (Nat.le_refl _)]
  show itr (chS l x) (dy1 l x dn th p).1.1 x.G j = _
  rw [dd_chI h l _ _ (Nat.le_refl _) hG]
  show (itr (sgS l x th) ((itr (dwS dn) p.1 dn.n, p.2), 0) x.L).1.1 j = _
  rw [dd_sgI h l th _ _ (Nat.le_refl _)]
  exact dd_dwI h hd p.1 _ (Nat.le_refl _)
theorem ZB_dd {x : Cx} {W W' : Rw} (h : ZB x W) (hL : x.L ≤ 6) (hG : x.G ≤ 8) (hT : x.T ≤ 10) (e : ∀ j, ddx x j → W' j = W j) : ZB x W' := by
  refine ⟨fun k q1 q2 => ?_, fun k q1 q2 => ?_, fun k q1 q2 => ?_, fun k q1 q2 => ?_, fun k q1 q2 => ?_, fun t g q1 q2 q3 => ?_⟩
  · rw [e _ ⟨by omega, by omega, fun i hi => by omega, fun t ht => by omega, fun t g ht hg => by omega⟩]; exact h.h k q1 q2
  · rw [e _ ⟨by omega, by omega, fun i hi => by omega, fun t ht => by omega, fun t g ht hg => by omega⟩]; exact h.t k q1 q2
  · rw [e _ ⟨by omega, by omega, fun i hi => by omega, fun t ht => by omega, fun t g ht hg => by omega⟩]; exact h.l k q1 q2
  · rw [e _ ⟨by omega, by omega, fun i hi => by omega, fun t ht => by omega, fun t g ht hg => by omega⟩]; exact h.s k q1 q2
  · rw [e _ ⟨by omega, by omega, fun i hi => by omega, fun t ht => by omega, fun t g ht hg => by omega⟩]; exact h.r k q1 q2
  · rw [e _ ⟨by omega, by omega, fun i hi => by omega, fun t ht => by omega, fun t g ht hg => by omega⟩]; exact h.st t g q1 q2 q3
/-! of the lines of TRADES, those of these days -/
def trC (t : Tr) (D k : Nat) : Nat → Nat
  | 0 => 0
  | j + 1 => trC t D k j + (if D ≤ t.day j ∧ t.day j < D + k then 1 else 0)
theorem trC_le (t : Tr) (D k : Nat) : ∀ n, trC t D k n ≤ n
  | 0 => Nat.le_refl _
  | n + 1 => by
    have := trC_le t D k n
    rw [trC]
    by_cases c : D ≤ t.day n ∧ t.day n < D + k
    · rw [if_pos c]; omega
    · rw [if_neg c]; omega
theorem trC_0 (t : Tr) (D : Nat) : ∀ n, trC t D 0 n = 0
  | 0 => rfl
  | n + 1 => by rw [trC, trC_0 t D n, if_neg (by omega)]
theorem trC_s {x : Cx} {t : Tr} (ht : TrOk x t) (D k : Nat) (hD : D + k ≤ 100000) : ∀ n, n ≤ t.n → trC t D k n + trE t (nI (D + k)) n = trC t D (k + 1) n
  | 0, _ => rfl
  | n + 1, hn => by
    have h1 := trC_s ht D k hD n (by omega)
    have h2 := ht.da n (by omega)
    rw [trC, trE, trC]
    by_cases c : t.day n = D + k
    · rw [if_neg (by omega), if_pos (by rw [c]), if_pos (by omega)]; omega
    · rw [if_neg (show ¬ nI (t.day n) = nI (D + k) by rw [eq_n (by omega) (by omega)]; exact c)]
      by_cases c2 : D ≤ t.day n ∧ t.day n < D + k
      · rw [if_pos c2, if_pos (by omega)]; omega
      · rw [if_neg c2, if_neg (by omega)]; omega
end
