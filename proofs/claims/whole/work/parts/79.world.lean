section
/-! A WORLD, as the class and as the model has it -/
abbrev Cx := (Nat) × (Nat) × (Nat) × (Nat → Int32) × (Nat → Int32) × (Nat → Nat)
def Cx.L (zz : Cx) : Nat := zz.1
def Cx.G (zz : Cx) : Nat := zz.2.1
def Cx.T (zz : Cx) : Nat := zz.2.2.1
def Cx.voice (zz : Cx) : Nat → Int32 := zz.2.2.2.1
def Cx.base (zz : Cx) : Nat → Int32 := zz.2.2.2.2.1
def Cx.up (zz : Cx) : Nat → Nat := zz.2.2.2.2.2
abbrev CW (w : Nat) (M : am_M) (x : Cx) (W : Nat → Int32) : Prop := (M w 0 = nI x.L) ∧ (M w 1 = nI x.G) ∧ (M w 2 = nI x.T) ∧ (M w 3 = W 3) ∧ (M w 4 = W 0) ∧ (M w 5 = W 1) ∧ (M w 6 = W 2) ∧ (∀ k, k < 6 → M (w + 1) k = x.voice k) ∧ (∀ k, k < 6 → M (w + 2) k = W (4 + k)) ∧ (∀ k, k < 6 → M (w + 3) k = W (10 + k)) ∧ (∀ k, k < 6 → M (w + 4) k = W (16 + k)) ∧ (∀ k, k < 6 → M (w + 5) k = W (22 + k)) ∧ (∀ k, k < 8 → M (w + 6) k = x.base k) ∧ (∀ k, k < x.G → M (w + 7) k = nI (x.up k) - 1) ∧ (∀ k, k < 8 → M (w + 8) k = W (28 + k)) ∧ (∀ k, k < 10 → M (w + 9) k = W (36 + k)) ∧ (∀ k, k < 10 → M (w + 10) k = W (46 + k)) ∧ (∀ k, k < 80 → M (w + 11) k = W (56 + k))
theorem CW.fL {w : Nat} {M : am_M} {x : Cx} {W : Nat → Int32} (zz : CW w M x W) : M w 0 = nI x.L := zz.1
theorem CW.fG {w : Nat} {M : am_M} {x : Cx} {W : Nat → Int32} (zz : CW w M x W) : M w 1 = nI x.G := zz.2.1
theorem CW.fT {w : Nat} {M : am_M} {x : Cx} {W : Nat → Int32} (zz : CW w M x W) : M w 2 = nI x.T := zz.2.2.1
theorem CW.wi {w : Nat} {M : am_M} {x : Cx} {W : Nat → Int32} (zz : CW w M x W) : M w 3 = W 3 := zz.2.2.2.1
theorem CW.da {w : Nat} {M : am_M} {x : Cx} {W : Nat → Int32} (zz : CW w M x W) : M w 4 = W 0 := zz.2.2.2.2.1
theorem CW.dr {w : Nat} {M : am_M} {x : Cx} {W : Nat → Int32} (zz : CW w M x W) : M w 5 = W 1 := zz.2.2.2.2.2.1
theorem CW.wr {w : Nat} {M : am_M} {x : Cx} {W : Nat → Int32} (zz : CW w M x W) : M w 6 = W 2 := zz.2.2.2.2.2.2.1
theorem CW.vo {w : Nat} {M : am_M} {x : Cx} {W : Nat → Int32} (zz : CW w M x W) : ∀ k, k < 6 → M (w + 1) k = x.voice k := zz.2.2.2.2.2.2.2.1
theorem CW.he {w : Nat} {M : am_M} {x : Cx} {W : Nat → Int32} (zz : CW w M x W) : ∀ k, k < 6 → M (w + 2) k = W (4 + k) := zz.2.2.2.2.2.2.2.2.1
theorem CW.tp {w : Nat} {M : am_M} {x : Cx} {W : Nat → Int32} (zz : CW w M x W) : ∀ k, k < 6 → M (w + 3) k = W (10 + k) := zz.2.2.2.2.2.2.2.2.2.1
theorem CW.lo {w : Nat} {M : am_M} {x : Cx} {W : Nat → Int32} (zz : CW w M x W) : ∀ k, k < 6 → M (w + 4) k = W (16 + k) := zz.2.2.2.2.2.2.2.2.2.2.1
theorem CW.sc {w : Nat} {M : am_M} {x : Cx} {W : Nat → Int32} (zz : CW w M x W) : ∀ k, k < 6 → M (w + 5) k = W (22 + k) := zz.2.2.2.2.2.2.2.2.2.2.2.1
theorem CW.ba {w : Nat} {M : am_M} {x : Cx} {W : Nat → Int32} (zz : CW w M x W) : ∀ k, k < 8 → M (w + 6) k = x.base k := zz.2.2.2.2.2.2.2.2.2.2.2.2.1
theorem CW.bb {w : Nat} {M : am_M} {x : Cx} {W : Nat → Int32} (zz : CW w M x W) : ∀ k, k < x.G → M (w + 7) k = nI (x.up k) - 1 := zz.2.2.2.2.2.2.2.2.2.2.2.2.2.1
theorem CW.pr {w : Nat} {M : am_M} {x : Cx} {W : Nat → Int32} (zz : CW w M x W) : ∀ k, k < 8 → M (w + 8) k = W (28 + k) := zz.2.2.2.2.2.2.2.2.2.2.2.2.2.2.1
theorem CW.pu {w : Nat} {M : am_M} {x : Cx} {W : Nat → Int32} (zz : CW w M x W) : ∀ k, k < 10 → M (w + 9) k = W (36 + k) := zz.2.2.2.2.2.2.2.2.2.2.2.2.2.2.2.1
theorem CW.ru {w : Nat} {M : am_M} {x : Cx} {W : Nat → Int32} (zz : CW w M x W) : ∀ k, k < 10 → M (w + 10) k = W (46 + k) := zz.2.2.2.2.2.2.2.2.2.2.2.2.2.2.2.2.1
theorem CW.st {w : Nat} {M : am_M} {x : Cx} {W : Nat → Int32} (zz : CW w M x W) : ∀ k, k < 80 → M (w + 11) k = W (56 + k) := zz.2.2.2.2.2.2.2.2.2.2.2.2.2.2.2.2.2
theorem CW_of {w : Nat} {M M' : am_M} {x : Cx} {W : Nat → Int32} (h : CW w M x W) (e : ∀ a, w ≤ a → a ≤ w + 11 → M' a = M a) : CW w M' x W := by
  refine ⟨?_, ?_, ?_, ?_, ?_, ?_, ?_, ?_, ?_, ?_, ?_, ?_, ?_, ?_, ?_, ?_, ?_, ?_⟩
  · rw [e w (by omega) (by omega)]; exact h.fL
  · rw [e w (by omega) (by omega)]; exact h.fG
  · rw [e w (by omega) (by omega)]; exact h.fT
  · rw [e w (by omega) (by omega)]; exact h.wi
  · rw [e w (by omega) (by omega)]; exact h.da
  · rw [e w (by omega) (by omega)]; exact h.dr
  · rw [e w (by omega) (by omega)]; exact h.wr
  · rw [e (w + 1) (by omega) (by omega)]; exact h.vo
  · rw [e (w + 2) (by omega) (by omega)]; exact h.he
  · rw [e (w + 3) (by omega) (by omega)]; exact h.tp
  · rw [e (w + 4) (by omega) (by omega)]; exact h.lo
  · rw [e (w + 5) (by omega) (by omega)]; exact h.sc
  · rw [e (w + 6) (by omega) (by omega)]; exact h.ba
  · rw [e (w + 7) (by omega) (by omega)]; exact h.bb
  · rw [e (w + 8) (by omega) (by omega)]; exact h.pr
  · rw [e (w + 9) (by omega) (by omega)]; exact h.pu
  · rw [e (w + 10) (by omega) (by omega)]; exact h.ru
  · rw [e (w + 11) (by omega) (by omega)]; exact h.st
theorem CW_row {w : Nat} {M : am_M} {x : Cx} {W : Nat → Int32} (h : CW w M x W) {a : Nat} (r : Nat → Int32) (ha : a < w ∨ w + 11 < a) : CW w (am_row M a r) x W := CW_of h (fun b h1 h2 => row_ne _ _ (by omega))
def oG (f : Nat → Int32) : Option Nat → Int32
  | some l => f l
  | none => 0
def akF (W : Nat → Int32) (x : Cx) (o g : Option Nat) (mi : Int32) (a : Nat) : Int32 := if a = 0 then oG x.voice o else if a = 1 then oG (fun l => W (4 + l)) o else if a = 2 then oG (fun l => W (10 + l)) o else if a = 3 then oG (fun l => W (22 + l)) o else if a = 4 then W 3 else if a = 5 then mi else if a = 6 then oG x.base g else if a = 7 then oG (fun l => W (16 + l)) o else W 0
theorem tc0 : (0 : Int32).toNatClampNeg = 0 := by decide
theorem tc1 : (1 : Int32).toNatClampNeg = 1 := by decide
theorem tc2 : (2 : Int32).toNatClampNeg = 2 := by decide
theorem tc3 : (3 : Int32).toNatClampNeg = 3 := by decide
theorem tc6 : (6 : Int32).toNatClampNeg = 6 := by decide
theorem tc7 : (7 : Int32).toNatClampNeg = 7 := by decide
theorem hasI {l n : Nat} {y : Int32} (hy : y = nI n) (h : l < n) (hn : n < 1000) : ¬ (nI l < 0) ∧ (¬ (y ≤ nI l)) := by
  rw [hy]
  exact ⟨by rw [li, lt_n (by omega) (by omega)]; omega, by rw [le_n (by omega) (by omega)]; omega⟩
theorem hasN {y : Int32} : ¬ (¬ ((-1 : Int32) < 0) ∧ (¬ (y ≤ -1))) := fun z => z.1 (by decide)
theorem in9 : vp_in (0 : Int32) 9 ∧ vp_in (1 : Int32) 9 ∧ vp_in (2 : Int32) 9 ∧ vp_in (3 : Int32) 9 ∧ vp_in (6 : Int32) 9 ∧ vp_in (7 : Int32) 9 := ⟨in_n (a := 0) (by omega) (by omega), in_n (a := 1) (by omega) (by omega), in_n (a := 2) (by omega) (by omega), in_n (a := 3) (by omega) (by omega), in_n (a := 6) (by omega) (by omega), in_n (a := 7) (by omega) (by omega)⟩
theorem ak_upd (W : Nat → Int32) (x : Cx) (o g : Option Nat) (mi : Int32) (r : Nat → Int32) (v0 v1 v2 v3 v4 v5 v6 v7 v8 : Int32) (h0 : v0 = oG x.voice o) (h1 : v1 = oG (fun l => W (4 + l)) o) (h2 : v2 = oG (fun l => W (10 + l)) o) (h3 : v3 = oG (fun l => W (22 + l)) o) (h4 : v4 = W 3) (h5 : v5 = mi) (h6 : v6 = oG x.base g) (h7 : v7 = oG (fun l => W (16 + l)) o) (h8 : v8 = W 0) : ∀ a, a < 9 → upd (upd (upd (upd (upd (upd (upd (upd (upd r 0 v0) 1 v1) 2 v2) 3 v3) 4 v4) 5 v5) 6 v6) 7 v7) 8 v8 a = akF W x o g mi a := by
  intro a ha
  subst h0 h1 h2 h3 h4 h5 h6 h7 h8
  have : a = 0 ∨ a = 1 ∨ a = 2 ∨ a = 3 ∨ a = 4 ∨ a = 5 ∨ a = 6 ∨ a = 7 ∨ a = 8 := by omega
  rcases this with rfl | rfl | rfl | rfl | rfl | rfl | rfl | rfl | rfl <;> rfl
theorem x_sees {d nS : Nat} {x4 : Int32} {M : am_M} {Q : Option Value → am_H → Prop} (x : Cx) (W : Nat → Int32) (hC : CW 18 M x W) (hL : x.L ≤ 6) (hG : x.G ≤ 8) (o g : Option Nat) (ho : ∀ l, o = some l → l < x.L) (hg : ∀ k, g = some k → k < x.G) (hQ : ∀ r, (∀ a, a < 9 → r a = akF W x o g x4 a) → Q none (hp nS (am_row M 37 r))) : am_Wp (d + 1) 21 0 [.ref 31, .ref 18, .int (oI o), .int (oI g), .int x4, .retAddr 0] [] (hp nS M) Q := by
  suffices H : ∀ r, am_Wp (d + 1) 21 0 [.ref 31, .ref 18, .int (oI o), .int (oI g), .int x4, .retAddr 0] [] (hp nS (am_row M 37 r)) Q by
    have := H (M 37)
    rw [row_id] at this
    exact this
  intro r
  obtain ⟨i0, i1, i2, i3, i6, i7⟩ := in9
  have g1 : ∀ (r : Nat → Int32) k, k < 6 → am_row M 37 r 19 k = x.voice k := fun r k hk => by rw [row_ne _ _ (by decide)]; exact hC.vo k hk
  have g2 : ∀ (r : Nat → Int32) k, k < 6 → am_row M 37 r 20 k = W (4 + k) := fun r k hk => by rw [row_ne _ _ (by decide)]; exact hC.he k hk
  have g3 : ∀ (r : Nat → Int32) k, k < 6 → am_row M 37 r 21 k = W (10 + k) := fun r k hk => by rw [row_ne _ _ (by decide)]; exact hC.tp k hk
  have g4 : ∀ (r : Nat → Int32) k, k < 6 → am_row M 37 r 22 k = W (16 + k) := fun r k hk => by rw [row_ne _ _ (by decide)]; exact hC.lo k hk
  have g5 : ∀ (r : Nat → Int32) k, k < 6 → am_row M 37 r 23 k = W (22 + k) := fun r k hk => by rw [row_ne _ _ (by decide)]; exact hC.sc k hk
  have g6 : ∀ (r : Nat → Int32) k, k < 8 → am_row M 37 r 24 k = x.base k := fun r k hk => by rw [row_ne _ _ (by decide)]; exact hC.ba k hk
  have gw : ∀ (r : Nat → Int32), am_row M 37 r 18 3 = W 3 := fun r => by rw [row_ne _ _ (by decide)]; exact hC.wi
  have gd : ∀ (r : Nat → Int32), am_row M 37 r 18 4 = W 0 := fun r => by rw [row_ne _ _ (by decide)]; exact hC.da
  have gL : ∀ (r : Nat → Int32), am_row M 37 r 18 0 = nI x.L := fun r => by rw [row_ne _ _ (by decide)]; exact hC.fL
  have gG : ∀ (r : Nat → Int32), am_row M 37 r 18 1 = nI x.G := fun r => by rw [row_ne _ _ (by decide)]; exact hC.fG
  cases o with
  | none =>
    rw [b_21_0, show oI none = -1 from rfl, c_104, am_ans_some, b_21_5, ite0_f hasN, b_21_26, b_21_27 i0, ite0_f hasN, b_21_47, b_21_48 i1, ite0_f hasN, b_21_68, b_21_69 i2, ite0_f hasN, b_21_89, b_21_90 i3, tc0, tc1, tc2, tc3, up_row, up_row, up_row, up_row, gw, up_row, up_row, c_106, am_ans_some, b_21_120]
    cases g with
    | none =>
      rw [show oI none = -1 from rfl, ite0_f hasN, b_21_132, b_21_133 i6, ite0_f hasN, b_21_154, b_21_155 i7, tc6, tc7, up_row, up_row, gd, up_row]
      exact hQ _ (ak_upd W x none none x4 _ _ _ _ _ _ _ _ _ _ rfl rfl rfl rfl rfl rfl rfl rfl rfl)
    | some k =>
      have hk := hg k rfl
      rw [show oI (some k) = nI k from rfl, ite0_t (hasI (gG _) hk (by omega)), b_21_123 (by first | exact in_n (by omega) (by omega) | (simp only [li, nI_add, pk_mul]; exact in_n (by omega) (by omega))), cl_n (by omega), g6 _ k (by omega), b_21_133 i6, ite0_f hasN, b_21_154, b_21_155 i7, tc6, tc7, up_row, up_row, gd, up_row]
      exact hQ _ (ak_upd W x none (some k) x4 _ _ _ _ _ _ _ _ _ _ rfl rfl rfl rfl rfl rfl rfl rfl rfl)
  | some l =>
    have hl := ho l rfl
    have hh := hasI (gL r) hl (by omega)
    rw [b_21_0, show oI (some l) = nI l from rfl, c_104, am_ans_some, b_21_5, ite0_t hh, b_21_17 (by first | exact in_n (by omega) (by omega) | (simp only [li, nI_add, pk_mul]; exact in_n (by omega) (by omega))), cl_n (by omega), g1 _ l (by omega), b_21_27 i0, ite0_t hh, tc0, up_row, b_21_38 (by first | exact in_n (by omega) (by omega) | (simp only [li, nI_add, pk_mul]; exact in_n (by omega) (by omega))), cl_n (by omega), g2 _ l (by omega), b_21_48 i1, ite0_t hh, tc1, up_row, b_21_59 (by first | exact in_n (by omega) (by omega) | (simp only [li, nI_add, pk_mul]; exact in_n (by omega) (by omega))), cl_n (by omega), g3 _ l (by omega), b_21_69 i2, ite0_t hh, tc2, up_row, b_21_80 (by first | exact in_n (by omega) (by omega) | (simp only [li, nI_add, pk_mul]; exact in_n (by omega) (by omega))), cl_n (by omega), g5 _ l (by omega), b_21_90 i3, tc3, up_row, gw, up_row, up_row, c_106, am_ans_some, b_21_120]
    cases g with
    | none =>
      rw [show oI none = -1 from rfl, ite0_f hasN, b_21_132, b_21_133 i6, ite0_t hh, tc6, up_row, b_21_145 (by first | exact in_n (by omega) (by omega) | (simp only [li, nI_add, pk_mul]; exact in_n (by omega) (by omega))), cl_n (by omega), g4 _ l (by omega), b_21_155 i7, tc7, up_row, gd, up_row]
      exact hQ _ (ak_upd W x (some l) none x4 _ _ _ _ _ _ _ _ _ _ rfl rfl rfl rfl rfl rfl rfl rfl rfl)
    | some k =>
      have hk := hg k rfl
      rw [show oI (some k) = nI k from rfl, ite0_t (hasI (gG _) hk (by omega)), b_21_123 (by first | exact in_n (by omega) (by omega) | (simp only [li, nI_add, pk_mul]; exact in_n (by omega) (by omega))), cl_n (by omega), g6 _ k (by omega), b_21_133 i6, ite0_t hh, tc6, up_row, b_21_145 (by first | exact in_n (by omega) (by omega) | (simp only [li, nI_add, pk_mul]; exact in_n (by omega) (by omega))), cl_n (by omega), g4 _ l (by omega), b_21_155 i7, tc7, up_row, gd, up_row]
      exact hQ _ (ak_upd W x (some l) (some k) x4 _ _ _ _ _ _ _ _ _ _ rfl rfl rfl rfl rfl rfl rfl rfl rfl)
theorem x_seesi1 {d nS : Nat} {x4 : Int32} {M : am_M} {Q : Option Value → am_H → Prop} (x : Cx) (W : Nat → Int32) (hC : CW 101 M x W) (hL : x.L ≤ 6) (hG : x.G ≤ 8) (o g : Option Nat) (ho : ∀ l, o = some l → l < x.L) (hg : ∀ k, g = some k → k < x.G) (hQ : ∀ r, (∀ a, a < 9 → r a = akF W x o g x4 a) → Q none (hp nS (am_row M 37 r))) : am_Wp (d + 1) 21 0 [.ref 31, .ref 101, .int (oI o), .int (oI g), .int x4, .retAddr 0] [] (hp nS M) Q := by
  suffices H : ∀ r, am_Wp (d + 1) 21 0 [.ref 31, .ref 101, .int (oI o), .int (oI g), .int x4, .retAddr 0] [] (hp nS (am_row M 37 r)) Q by
    have := H (M 37)
    rw [row_id] at this
    exact this
  intro r
  obtain ⟨i0, i1, i2, i3, i6, i7⟩ := in9
  have g1 : ∀ (r : Nat → Int32) k, k < 6 → am_row M 37 r 102 k = x.voice k := fun r k hk => by rw [row_ne _ _ (by decide)]; exact hC.vo k hk
  have g2 : ∀ (r : Nat → Int32) k, k < 6 → am_row M 37 r 103 k = W (4 + k) := fun r k hk => by rw [row_ne _ _ (by decide)]; exact hC.he k hk
  have g3 : ∀ (r : Nat → Int32) k, k < 6 → am_row M 37 r 104 k = W (10 + k) := fun r k hk => by rw [row_ne _ _ (by decide)]; exact hC.tp k hk
  have g4 : ∀ (r : Nat → Int32) k, k < 6 → am_row M 37 r 105 k = W (16 + k) := fun r k hk => by rw [row_ne _ _ (by decide)]; exact hC.lo k hk
  have g5 : ∀ (r : Nat → Int32) k, k < 6 → am_row M 37 r 106 k = W (22 + k) := fun r k hk => by rw [row_ne _ _ (by decide)]; exact hC.sc k hk
  have g6 : ∀ (r : Nat → Int32) k, k < 8 → am_row M 37 r 107 k = x.base k := fun r k hk => by rw [row_ne _ _ (by decide)]; exact hC.ba k hk
  have gw : ∀ (r : Nat → Int32), am_row M 37 r 101 3 = W 3 := fun r => by rw [row_ne _ _ (by decide)]; exact hC.wi
  have gd : ∀ (r : Nat → Int32), am_row M 37 r 101 4 = W 0 := fun r => by rw [row_ne _ _ (by decide)]; exact hC.da
  have gL : ∀ (r : Nat → Int32), am_row M 37 r 101 0 = nI x.L := fun r => by rw [row_ne _ _ (by decide)]; exact hC.fL
  have gG : ∀ (r : Nat → Int32), am_row M 37 r 101 1 = nI x.G := fun r => by rw [row_ne _ _ (by decide)]; exact hC.fG
  cases o with
  | none =>
    rw [b_21i1_0, show oI none = -1 from rfl, c_104i1, am_ans_some, b_21i1_5, ite0_f hasN, b_21i1_26, b_21i1_27 i0, ite0_f hasN, b_21i1_47, b_21i1_48 i1, ite0_f hasN, b_21i1_68, b_21i1_69 i2, ite0_f hasN, b_21i1_89, b_21i1_90 i3, tc0, tc1, tc2, tc3, up_row, up_row, up_row, up_row, gw, up_row, up_row, c_106i1, am_ans_some, b_21i1_120]
    cases g with
    | none =>
      rw [show oI none = -1 from rfl, ite0_f hasN, b_21i1_132, b_21i1_133 i6, ite0_f hasN, b_21i1_154, b_21i1_155 i7, tc6, tc7, up_row, up_row, gd, up_row]
      exact hQ _ (ak_upd W x none none x4 _ _ _ _ _ _ _ _ _ _ rfl rfl rfl rfl rfl rfl rfl rfl rfl)
    | some k =>
      have hk := hg k rfl
      rw [show oI (some k) = nI k from rfl, ite0_t (hasI (gG _) hk (by omega)), b_21i1_123 (by first | exact in_n (by omega) (by omega) | (simp only [li, nI_add, pk_mul]; exact in_n (by omega) (by omega))), cl_n (by omega), g6 _ k (by omega), b_21i1_133 i6, ite0_f hasN, b_21i1_154, b_21i1_155 i7, tc6, tc7, up_row, up_row, gd, up_row]
      exact hQ _ (ak_upd W x none (some k) x4 _ _ _ _ _ _ _ _ _ _ rfl rfl rfl rfl rfl rfl rfl rfl rfl)
  | some l =>
    have hl := ho l rfl
    have hh := hasI (gL r) hl (by omega)
    rw [b_21i1_0, show oI (some l) = nI l from rfl, c_104i1, am_ans_some, b_21i1_5, ite0_t hh, b_21i1_17 (by first | exact in_n (by omega) (by omega) | (simp only [li, nI_add, pk_mul]; exact in_n (by omega) (by omega))), cl_n (by omega), g1 _ l (by omega), b_21i1_27 i0, ite0_t hh, tc0, up_row, b_21i1_38 (by first | exact in_n (by omega) (by omega) | (simp only [li, nI_add, pk_mul]; exact in_n (by omega) (by omega))), cl_n (by omega), g2 _ l (by omega), b_21i1_48 i1, ite0_t hh, tc1, up_row, b_21i1_59 (by first | exact in_n (by omega) (by omega) | (simp only [li, nI_add, pk_mul]; exact in_n (by omega) (by omega))), cl_n (by omega), g3 _ l (by omega), b_21i1_69 i2, ite0_t hh, tc2, up_row, b_21i1_80 (by first | exact in_n (by omega) (by omega) | (simp only [li, nI_add, pk_mul]; exact in_n (by omega) (by omega))), cl_n (by omega), g5 _ l (by omega), b_21i1_90 i3, tc3, up_row, gw, up_row, up_row, c_106i1, am_ans_some, b_21i1_120]
    cases g with
    | none =>
      rw [show oI none = -1 from rfl, ite0_f hasN, b_21i1_132, b_21i1_133 i6, ite0_t hh, tc6, up_row, b_21i1_145 (by first | exact in_n (by omega) (by omega) | (simp only [li, nI_add, pk_mul]; exact in_n (by omega) (by omega))), cl_n (by omega), g4 _ l (by omega), b_21i1_155 i7, tc7, up_row, gd, up_row]
      exact hQ _ (ak_upd W x (some l) none x4 _ _ _ _ _ _ _ _ _ _ rfl rfl rfl rfl rfl rfl rfl rfl rfl)
    | some k =>
      have hk := hg k rfl
      rw [show oI (some k) = nI k from rfl, ite0_t (hasI (gG _) hk (by omega)), b_21i1_123 (by first | exact in_n (by omega) (by omega) | (simp only [li, nI_add, pk_mul]; exact in_n (by omega) (by omega))), cl_n (by omega), g6 _ k (by omega), b_21i1_133 i6, ite0_t hh, tc6, up_row, b_21i1_145 (by first | exact in_n (by omega) (by omega) | (simp only [li, nI_add, pk_mul]; exact in_n (by omega) (by omega))), cl_n (by omega), g4 _ l (by omega), b_21i1_155 i7, tc7, up_row, gd, up_row]
      exact hQ _ (ak_upd W x (some l) (some k) x4 _ _ _ _ _ _ _ _ _ _ rfl rfl rfl rfl rfl rfl rfl rfl rfl)
theorem hv_eq {lo hi : Int32} (v : Int32) (hlh : lo < hi) : (if lo < (if v < hi then v else hi) then (if v < hi then v else hi) else lo) = hvV lo hi v := by
  unfold hvV
  by_cases h1 : v < hi
  · rw [if_pos h1]
    by_cases h2 : lo < v
    · rw [if_pos h2, if_pos (Int32.le_of_lt h2), if_pos (Int32.le_of_lt h1)]
    · rw [if_neg h2]
      by_cases h3 : lo ≤ v
      · rw [if_pos h3, if_pos (Int32.le_of_lt h1)]
        exact Int32.le_antisymm h3 (le_of' h2)
      · rw [if_neg h3]
  · rw [if_neg h1, if_pos hlh, if_pos (Int32.le_trans (Int32.le_of_lt hlh) (le_of' h1))]
    by_cases h3 : v ≤ hi
    · rw [if_pos h3]
      exact Int32.le_antisymm (le_of' h1) h3
    · rw [if_neg h3]
def loV (w : Nat) : Int32 := if w = 2 then 1 else 0
def hiV (w : Nat) : Int32 := if w = 0 then 99 else if w = 1 then 1000 else 999
theorem x_held {d nS w : Nat} {v : Int32} {M : am_M} {Q : Option Value → am_H → Prop} (hw : w ≤ 2) : am_Wp (d + 1) 24 0 [.int (nI w), .int v, .retAddr 0, .retAddr 0] [] (hp nS M) Q = Q (some (.int (hvV (loV w) (hiV w) v))) (hp nS M) := by
  rw [c_24]
  have : w = 0 ∨ w = 1 ∨ w = 2 := by omega
  rcases this with rfl | rfl | rfl
  · rw [if_pos (by decide), if_neg (fun z => z rfl), hv_eq v (by decide)]
    rfl
  · rw [if_pos (by decide), if_pos (by decide), if_neg (fun z => z rfl), hv_eq v (by decide)]
    rfl
  · rw [if_neg (fun z => z rfl), if_pos (by decide), if_pos (by decide), hv_eq v (by decide)]
    rfl
def usV (w : Nat) (ak : Nat → Int32) : Int32 := if w = 0 then 5 + ak 0 else if w = 1 then (100 + 100 * ak 3) - 10 * ak 0 else ak 6 + ak 1 / 10
/-- who is asked: of a lark, or for a good -/
def okA (w : Nat) (x : Cx) (o g : Option Nat) : Prop := (∀ l, o = some l → l < x.L) ∧ (∀ k, g = some k → k < x.G) ∧ (w = 2 → ∃ k, g = some k) ∧ (¬ w = 2 → ∃ l, o = some l)
theorem x_usual {d nS w : Nat} {mi : Int32} {M : am_M} {Q : Option Value → am_H → Prop} (x : Cx) (W : Nat → Int32) (hC : CW 18 M x W) (hL : x.L ≤ 6) (hG : x.G ≤ 8) (o g : Option Nat) (hw : w ≤ 2) (ha : okA w x o g) : am_Wp (d + 1) 25 0 [.int (nI w), .ref 18, .int (oI o), .int (oI g), .retAddr 0, .retAddr 0] [] (hp nS M) Q = Q (some (.int (usV w (akF W x o g mi)))) (hp nS M) := by
  obtain ⟨ho, hg, h2, h01⟩ := ha
  have gvo : ∀ k, k < 6 → M 19 k = x.voice k := hC.vo
  have ghe : ∀ k, k < 6 → M 20 k = W (4 + k) := hC.he
  have gsc : ∀ k, k < 6 → M 23 k = W (22 + k) := hC.sc
  have gba : ∀ k, k < 8 → M 24 k = x.base k := hC.ba
  have e2 : ∀ {n : Nat} {y : Int32} {o : Option Nat}, y = nI n → n < 1000 → (∀ l, o = some l → l < n) → (¬ (oI o < 0) ∧ (¬ (y ≤ oI o))) → ∀ {N : Nat}, n ≤ N → N < 1000 → vp_in (oI o) N := by
    intro n y o hy hn hl hc N hN hN2
    cases o with
    | none => exact absurd hc hasN
    | some l =>
      have := hl l rfl
      exact in_n (by omega) (by omega)
  have iL : (¬ (oI o < 0) ∧ (¬ ((M 18 0) ≤ oI o))) → vp_in (oI o) 6 := fun h => e2 hC.fL (by omega) ho h hL (by omega)
  have iG : (¬ (oI g < 0) ∧ (¬ ((M 18 1) ≤ oI g))) → vp_in (oI g) 8 := fun h => e2 hC.fG (by omega) hg h hG (by omega)
  rw [c_25 (fun _ h _ => iL h) (fun _ h _ => iL h) (fun _ h _ => iL h) (fun _ h => iG h) (fun _ _ h => iL h) (fun _ _ h => iL h)]
  have : w = 0 ∨ w = 1 ∨ w = 2 := by omega
  rcases this with rfl | rfl | rfl
  · obtain ⟨l, rfl⟩ := h01 (by omega)
    have hl := ho l rfl
    rw [if_pos (by decide), if_pos (show ¬ (oI (some l) < 0) ∧ (¬ ((M 18 0) ≤ oI (some l))) from hasI hC.fL hl (by omega)), if_neg (fun z => z rfl), show oI (some l) = nI l from rfl, cl_n (by omega), gvo l (by omega)]
    rfl
  · obtain ⟨l, rfl⟩ := h01 (by omega)
    have hl := ho l rfl
    rw [if_pos (by decide), if_pos (show ¬ (oI (some l) < 0) ∧ (¬ ((M 18 0) ≤ oI (some l))) from hasI hC.fL hl (by omega)), if_pos (by decide), show oI (some l) = nI l from rfl, cl_n (by omega), gvo l (by omega), gsc l (by omega)]
    rfl
  · obtain ⟨k, rfl⟩ := h2 rfl
    have hk := hg k rfl
    rw [if_neg (fun z => z rfl), if_pos (show ¬ (oI (some k) < 0) ∧ (¬ ((M 18 1) ≤ oI (some k))) from hasI hC.fG hk (by omega)), show oI (some k) = nI k from rfl, cl_n (by omega), gba k (by omega)]
    cases o with
    | none =>
      rw [if_neg (show ¬ (¬ (oI none < 0) ∧ (¬ ((M 18 0) ≤ oI none))) from hasN)]
      have : x.base k = x.base k + (0 : Int32) / 10 := by rw [show (0 : Int32) / 10 = 0 from by decide, Int32.add_zero]
      rw [this]
      rfl
    | some l =>
      have hl := ho l rfl
      rw [if_pos (show ¬ (oI (some l) < 0) ∧ (¬ ((M 18 0) ≤ oI (some l))) from hasI hC.fL hl (by omega)), show oI (some l) = nI l from rfl, cl_n (by omega), ghe l (by omega)]
      rfl
theorem x_tells {d nS w : Nat} {mi : Int32} {M : am_M} {Q : Option Value → am_H → Prop} (l : Lw) (x : Cx) (W : Nat → Int32) (hl : LwOk l) (hM : CLw 31 M l) (hC : CW 18 M x W) (hL : x.L ≤ 6) (hG : x.G ≤ 8) (o g : Option Nat) (hw : w ≤ 2) (ha : okA w x o g) (hQ : ∀ r r', Q (some (.int (telV l (akF W x o g mi) w (usV w (akF W x o g mi)) (loV w) (hiV w)))) (hp nS (am_row (am_row M 37 r) 38 r'))) : am_Wp (d + 2) 20 0 [.ref 31, .int (nI w), .ref 18, .int (oI o), .int (oI g), .int mi, .retAddr 0, .retAddr 0] [] (hp nS M) Q := by
  have h16 := hl.n16
  have h400 := hl.u400
  have hCC : ∀ r r' : Nat → Int32, CW 18 (am_row (am_row M 37 r) 38 r') x W := fun r r' => CW_row (CW_row hC r (by omega)) r' (by omega)
  have hMM : ∀ r r' : Nat → Int32, CLw 31 (am_row (am_row M 37 r) 38 r') l := fun r r' => CLw_row (CLw_row hM r (by omega)) r' (by omega)
  have g32 : ∀ r r' : Nat → Int32, ∀ k, k < l.n → am_row (am_row M 37 r) 38 r' 32 k = nI (l.w k) := fun r r' => (hMM r r').w
  have g33 : ∀ r r' : Nat → Int32, ∀ k, k < l.n → am_row (am_row M 37 r) 38 r' 33 k = nI (l.f k) := fun r r' => (hMM r r').f
  have g34 : ∀ r r' : Nat → Int32, ∀ k, k < l.n → am_row (am_row M 37 r) 38 r' 34 k = nI (l.h k) := fun r r' => (hMM r r').h
  have g35 : ∀ r r' : Nat → Int32, ∀ k, k < l.n → am_row (am_row M 37 r) 38 r' 35 k = nI (l.t k) := fun r r' => (hMM r r').t
  have key : ∀ m (sn : Bool) (r r' : Nat → Int32), m ≤ l.n → (sn = true → ∀ a, a < 9 → r a = akF W x o g mi a) → lnO l (akF W x o g mi) w m = lnO l (akF W x o g mi) w l.n → am_Wp (d + 2) 20 6 [.ref 31, .int (nI w), .ref 18, .int (oI o), .int (oI g), .int mi, .int (bI sn), .int (nI (l.n - m))] [] (hp nS (am_row (am_row M 37 r) 38 r')) Q := by
    intro m
    induction m with
    | zero =>
      intro sn r r' _ hsn he
      rw [b_20_6, if_pos (by rw [(hMM r r').n]; exact Int32.le_refl _), b_20_114, x_usual (mi := mi) x W (hCC r r') hL hG o g hw ha, am_ans_some, b_20_123, x_held hw, am_ans_some, b_20_126]
      have := hQ r r'
      unfold telV at this
      rw [← he] at this
      exact this
    | succ m ih =>
      intro sn r r' hm hsn he
      have hk : l.n - (m + 1) < l.n := by omega
      have e : l.n - (m + 1) + 1 = l.n - m := by omega
      have hwk := hl.w3 _ hk
      have hfh := hl.fh _ hk
      have hht := hl.ht _ hk
      have htu := hl.tu _ hk
      have next : ∀ (sn : Bool) (r r' : Nat → Int32), (sn = true → ∀ a, a < 9 → r a = akF W x o g mi a) → lnO l (akF W x o g mi) w (m + 1) = lnO l (akF W x o g mi) w m → am_Wp (d + 2) 20 108 [.ref 31, .int (nI w), .ref 18, .int (oI o), .int (oI g), .int mi, .int (bI sn), .int (nI (l.n - (m + 1)))] [] (hp nS (am_row (am_row M 37 r) 38 r')) Q := by
        intro sn r r' h1 h2
        rw [b_20_108, nI_1, e]
        exact ih sn r r' (by omega) h1 (h2 ▸ he)
      have stop : ∀ (x6 : Int32) (r r' : Nat → Int32), (∀ a, a < 9 → r a = akF W x o g mi a) → lnO l (akF W x o g mi) w (m + 1) = some (l.n - (m + 1)) → am_Wp (d + 2) 20 85 [.ref 31, .int (nI w), .ref 18, .int (oI o), .int (oI g), .int mi, .int x6, .int (nI (l.n - (m + 1)))] [] (hp nS (am_row (am_row M 37 r) 38 r')) Q := by
        intro x6 r r' h1 h2
        obtain ⟨b, hb⟩ := hl.e _ hk
        rw [b_20_85 (by first | exact in_n (by omega) (by omega) | (simp only [li, nI_add, pk_mul]; exact in_n (by omega) (by omega))) (by first | exact in_n (by omega) (by omega) | (simp only [li, nI_add, pk_mul]; exact in_n (by omega) (by omega))), cl_n (by omega), g33 r r' _ hk, g34 r r' _ hk]
        refine x_evl l (akF W x o g mi) (hMM r r') (fun a ha => by rw [row_ne _ _ (by decide), row_same]; exact h1 a ha) hfh (by omega) h400 hb (fun r2 => ?_)
        rw [am_ans_some, b_20_104, x_held hw, am_ans_some, b_20_107, row_row]
        have := hQ r r2
        unfold telV at this
        rw [← he, h2] at this
        exact this
      have test : ∀ (r r' : Nat → Int32), (∀ a, a < 9 → r a = akF W x o g mi a) → l.w (l.n - (m + 1)) = w → am_Wp (d + 2) 20 47 [.ref 31, .int (nI w), .ref 18, .int (oI o), .int (oI g), .int mi, .int (bI true), .int (nI (l.n - (m + 1)))] [] (hp nS (am_row (am_row M 37 r) 38 r')) Q := by
        intro r r' h1 hwe
        rw [b_20_47 (by first | exact in_n (by omega) (by omega) | (simp only [li, nI_add, pk_mul]; exact in_n (by omega) (by omega))) (by first | exact in_n (by omega) (by omega) | (simp only [li, nI_add, pk_mul]; exact in_n (by omega) (by omega))), cl_n (by omega), g34 r r' _ hk, g35 r r' _ hk]
        by_cases h2 : l.h (l.n - (m + 1)) = l.t (l.n - (m + 1))
        · rw [if_pos (by rw [h2])]
          exact stop _ r r' h1 (by rw [lnO, if_pos ⟨hwe, Or.inl h2⟩])
        · obtain ⟨b, hb⟩ := (hl.c _ hk).resolve_left h2
          rw [if_neg (by rw [eq_n (by omega) (by omega)]; exact h2), b_20_64 (by first | exact in_n (by omega) (by omega) | (simp only [li, nI_add, pk_mul]; exact in_n (by omega) (by omega))) (by first | exact in_n (by omega) (by omega) | (simp only [li, nI_add, pk_mul]; exact in_n (by omega) (by omega))), cl_n (by omega), g34 r r' _ hk, g35 r r' _ hk]
          refine x_evl l (akF W x o g mi) (hMM r r') (fun a ha => by rw [row_ne _ _ (by decide), row_same]; exact h1 a ha) hht htu h400 hb (fun r2 => ?_)
          rw [am_ans_some, b_20_82, row_row]
          by_cases h3 : evl l (akF W x o g mi) (l.h (l.n - (m + 1))) (l.t (l.n - (m + 1))) = 0
          · rw [if_pos h3]
            exact next true r r2 (fun _ => h1) (by rw [lnO, if_neg (fun z => z.2.elim h2 (fun z => z h3))])
          · rw [if_neg h3]
            exact stop _ r r2 h1 (by rw [lnO, if_pos ⟨hwe, Or.inr h3⟩])
      rw [b_20_6, if_neg (by rw [(hMM r r').n, le_n (by omega) (by omega)]; omega), b_20_15 (by first | exact in_n (by omega) (by omega) | (simp only [li, nI_add, pk_mul]; exact in_n (by omega) (by omega))), cl_n (by omega), g32 r r' _ hk]
      by_cases h1 : l.w (l.n - (m + 1)) = w
      · rw [if_pos (by rw [h1]), b_20_29]
        cases sn with
        | true =>
          rw [if_pos (by decide)]
          exact test r r' (hsn rfl) h1
        | false =>
          rw [if_neg (fun z => z rfl), b_20_34]
          refine x_sees x W (hCC r r') hL hG o g ha.1 ha.2.1 (fun r2 hr2 => ?_)
          rw [am_ans_none, b_20_44, row_comm _ _ _ (show 38 ≠ 37 by decide), row_row]
          exact test r2 r' hr2 h1
      · rw [if_neg (by rw [eq_n (by omega) (by omega)]; exact h1), b_20_26]
        exact next sn r r' hsn (by rw [lnO, if_neg (fun z => h1 z.1)])
  rw [b_20_0, ← row_id M 37, ← row_id (am_row M 37 (M 37)) 38]
  have := key l.n false (M 37) (am_row M 37 (M 37) 38) (Nat.le_refl _) (fun h => by cases h) rfl
  rw [Nat.sub_self] at this
  exact this
theorem x_usuali1 {d nS w : Nat} {mi : Int32} {M : am_M} {Q : Option Value → am_H → Prop} (x : Cx) (W : Nat → Int32) (hC : CW 101 M x W) (hL : x.L ≤ 6) (hG : x.G ≤ 8) (o g : Option Nat) (hw : w ≤ 2) (ha : okA w x o g) : am_Wp (d + 1) 25 0 [.int (nI w), .ref 101, .int (oI o), .int (oI g), .retAddr 0, .retAddr 0] [] (hp nS M) Q = Q (some (.int (usV w (akF W x o g mi)))) (hp nS M) := by
  obtain ⟨ho, hg, h2, h01⟩ := ha
  have gvo : ∀ k, k < 6 → M 102 k = x.voice k := hC.vo
  have ghe : ∀ k, k < 6 → M 103 k = W (4 + k) := hC.he
  have gsc : ∀ k, k < 6 → M 106 k = W (22 + k) := hC.sc
  have gba : ∀ k, k < 8 → M 107 k = x.base k := hC.ba
  have e2 : ∀ {n : Nat} {y : Int32} {o : Option Nat}, y = nI n → n < 1000 → (∀ l, o = some l → l < n) → (¬ (oI o < 0) ∧ (¬ (y ≤ oI o))) → ∀ {N : Nat}, n ≤ N → N < 1000 → vp_in (oI o) N := by
    intro n y o hy hn hl hc N hN hN2
    cases o with
    | none => exact absurd hc hasN
    | some l =>
      have := hl l rfl
      exact in_n (by omega) (by omega)
  have iL : (¬ (oI o < 0) ∧ (¬ ((M 101 0) ≤ oI o))) → vp_in (oI o) 6 := fun h => e2 hC.fL (by omega) ho h hL (by omega)
  have iG : (¬ (oI g < 0) ∧ (¬ ((M 101 1) ≤ oI g))) → vp_in (oI g) 8 := fun h => e2 hC.fG (by omega) hg h hG (by omega)
  rw [c_25i1 (fun _ h _ => iL h) (fun _ h _ => iL h) (fun _ h _ => iL h) (fun _ h => iG h) (fun _ _ h => iL h) (fun _ _ h => iL h)]
  have : w = 0 ∨ w = 1 ∨ w = 2 := by omega
  rcases this with rfl | rfl | rfl
  · obtain ⟨l, rfl⟩ := h01 (by omega)
    have hl := ho l rfl
    rw [if_pos (by decide), if_pos (show ¬ (oI (some l) < 0) ∧ (¬ ((M 101 0) ≤ oI (some l))) from hasI hC.fL hl (by omega)), if_neg (fun z => z rfl), show oI (some l) = nI l from rfl, cl_n (by omega), gvo l (by omega)]
    rfl
  · obtain ⟨l, rfl⟩ := h01 (by omega)
    have hl := ho l rfl
    rw [if_pos (by decide), if_pos (show ¬ (oI (some l) < 0) ∧ (¬ ((M 101 0) ≤ oI (some l))) from hasI hC.fL hl (by omega)), if_pos (by decide), show oI (some l) = nI l from rfl, cl_n (by omega), gvo l (by omega), gsc l (by omega)]
    rfl
  · obtain ⟨k, rfl⟩ := h2 rfl
    have hk := hg k rfl
    rw [if_neg (fun z => z rfl), if_pos (show ¬ (oI (some k) < 0) ∧ (¬ ((M 101 1) ≤ oI (some k))) from hasI hC.fG hk (by omega)), show oI (some k) = nI k from rfl, cl_n (by omega), gba k (by omega)]
    cases o with
    | none =>
      rw [if_neg (show ¬ (¬ (oI none < 0) ∧ (¬ ((M 101 0) ≤ oI none))) from hasN)]
      have : x.base k = x.base k + (0 : Int32) / 10 := by rw [show (0 : Int32) / 10 = 0 from by decide, Int32.add_zero]
      rw [this]
      rfl
    | some l =>
      have hl := ho l rfl
      rw [if_pos (show ¬ (oI (some l) < 0) ∧ (¬ ((M 101 0) ≤ oI (some l))) from hasI hC.fL hl (by omega)), show oI (some l) = nI l from rfl, cl_n (by omega), ghe l (by omega)]
      rfl
theorem x_tellsi1 {d nS w : Nat} {mi : Int32} {M : am_M} {Q : Option Value → am_H → Prop} (l : Lw) (x : Cx) (W : Nat → Int32) (hl : LwOk l) (hM : CLw 31 M l) (hC : CW 101 M x W) (hL : x.L ≤ 6) (hG : x.G ≤ 8) (o g : Option Nat) (hw : w ≤ 2) (ha : okA w x o g) (hQ : ∀ r r', Q (some (.int (telV l (akF W x o g mi) w (usV w (akF W x o g mi)) (loV w) (hiV w)))) (hp nS (am_row (am_row M 37 r) 38 r'))) : am_Wp (d + 2) 20 0 [.ref 31, .int (nI w), .ref 101, .int (oI o), .int (oI g), .int mi, .retAddr 0, .retAddr 0] [] (hp nS M) Q := by
  have h16 := hl.n16
  have h400 := hl.u400
  have hCC : ∀ r r' : Nat → Int32, CW 101 (am_row (am_row M 37 r) 38 r') x W := fun r r' => CW_row (CW_row hC r (by omega)) r' (by omega)
  have hMM : ∀ r r' : Nat → Int32, CLw 31 (am_row (am_row M 37 r) 38 r') l := fun r r' => CLw_row (CLw_row hM r (by omega)) r' (by omega)
  have g32 : ∀ r r' : Nat → Int32, ∀ k, k < l.n → am_row (am_row M 37 r) 38 r' 32 k = nI (l.w k) := fun r r' => (hMM r r').w
  have g33 : ∀ r r' : Nat → Int32, ∀ k, k < l.n → am_row (am_row M 37 r) 38 r' 33 k = nI (l.f k) := fun r r' => (hMM r r').f
  have g34 : ∀ r r' : Nat → Int32, ∀ k, k < l.n → am_row (am_row M 37 r) 38 r' 34 k = nI (l.h k) := fun r r' => (hMM r r').h
  have g35 : ∀ r r' : Nat → Int32, ∀ k, k < l.n → am_row (am_row M 37 r) 38 r' 35 k = nI (l.t k) := fun r r' => (hMM r r').t
  have key : ∀ m (sn : Bool) (r r' : Nat → Int32), m ≤ l.n → (sn = true → ∀ a, a < 9 → r a = akF W x o g mi a) → lnO l (akF W x o g mi) w m = lnO l (akF W x o g mi) w l.n → am_Wp (d + 2) 20 6 [.ref 31, .int (nI w), .ref 101, .int (oI o), .int (oI g), .int mi, .int (bI sn), .int (nI (l.n - m))] [] (hp nS (am_row (am_row M 37 r) 38 r')) Q := by
    intro m
    induction m with
    | zero =>
      intro sn r r' _ hsn he
      rw [b_20i1_6, if_pos (by rw [(hMM r r').n]; exact Int32.le_refl _), b_20i1_114, x_usuali1 (mi := mi) x W (hCC r r') hL hG o g hw ha, am_ans_some, b_20i1_123, x_held hw, am_ans_some, b_20i1_126]
      have := hQ r r'
      unfold telV at this
      rw [← he] at this
      exact this
    | succ m ih =>
      intro sn r r' hm hsn he
      have hk : l.n - (m + 1) < l.n := by omega
      have e : l.n - (m + 1) + 1 = l.n - m := by omega
      have hwk := hl.w3 _ hk
      have hfh := hl.fh _ hk
      have hht := hl.ht _ hk
      have htu := hl.tu _ hk
      have next : ∀ (sn : Bool) (r r' : Nat → Int32), (sn = true → ∀ a, a < 9 → r a = akF W x o g mi a) → lnO l (akF W x o g mi) w (m + 1) = lnO l (akF W x o g mi) w m → am_Wp (d + 2) 20 108 [.ref 31, .int (nI w), .ref 101, .int (oI o), .int (oI g), .int mi, .int (bI sn), .int (nI (l.n - (m + 1)))] [] (hp nS (am_row (am_row M 37 r) 38 r')) Q := by
        intro sn r r' h1 h2
        rw [b_20i1_108, nI_1, e]
        exact ih sn r r' (by omega) h1 (h2 ▸ he)
      have stop : ∀ (x6 : Int32) (r r' : Nat → Int32), (∀ a, a < 9 → r a = akF W x o g mi a) → lnO l (akF W x o g mi) w (m + 1) = some (l.n - (m + 1)) → am_Wp (d + 2) 20 85 [.ref 31, .int (nI w), .ref 101, .int (oI o), .int (oI g), .int mi, .int x6, .int (nI (l.n - (m + 1)))] [] (hp nS (am_row (am_row M 37 r) 38 r')) Q := by
        intro x6 r r' h1 h2
        obtain ⟨b, hb⟩ := hl.e _ hk
        rw [b_20i1_85 (by first | exact in_n (by omega) (by omega) | (simp only [li, nI_add, pk_mul]; exact in_n (by omega) (by omega))) (by first | exact in_n (by omega) (by omega) | (simp only [li, nI_add, pk_mul]; exact in_n (by omega) (by omega))), cl_n (by omega), g33 r r' _ hk, g34 r r' _ hk]
        refine x_evl l (akF W x o g mi) (hMM r r') (fun a ha => by rw [row_ne _ _ (by decide), row_same]; exact h1 a ha) hfh (by omega) h400 hb (fun r2 => ?_)
        rw [am_ans_some, b_20i1_104, x_held hw, am_ans_some, b_20i1_107, row_row]
        have := hQ r r2
        unfold telV at this
        rw [← he, h2] at this
        exact this
      have test : ∀ (r r' : Nat → Int32), (∀ a, a < 9 → r a = akF W x o g mi a) → l.w (l.n - (m + 1)) = w → am_Wp (d + 2) 20 47 [.ref 31, .int (nI w), .ref 101, .int (oI o), .int (oI g), .int mi, .int (bI true), .int (nI (l.n - (m + 1)))] [] (hp nS (am_row (am_row M 37 r) 38 r')) Q := by
        intro r r' h1 hwe
        rw [b_20i1_47 (by first | exact in_n (by omega) (by omega) | (simp only [li, nI_add, pk_mul]; exact in_n (by omega) (by omega))) (by first | exact in_n (by omega) (by omega) | (simp only [li, nI_add, pk_mul]; exact in_n (by omega) (by omega))), cl_n (by omega), g34 r r' _ hk, g35 r r' _ hk]
        by_cases h2 : l.h (l.n - (m + 1)) = l.t (l.n - (m + 1))
        · rw [if_pos (by rw [h2])]
          exact stop _ r r' h1 (by rw [lnO, if_pos ⟨hwe, Or.inl h2⟩])
        · obtain ⟨b, hb⟩ := (hl.c _ hk).resolve_left h2
          rw [if_neg (by rw [eq_n (by omega) (by omega)]; exact h2), b_20i1_64 (by first | exact in_n (by omega) (by omega) | (simp only [li, nI_add, pk_mul]; exact in_n (by omega) (by omega))) (by first | exact in_n (by omega) (by omega) | (simp only [li, nI_add, pk_mul]; exact in_n (by omega) (by omega))), cl_n (by omega), g34 r r' _ hk, g35 r r' _ hk]
          refine x_evl l (akF W x o g mi) (hMM r r') (fun a ha => by rw [row_ne _ _ (by decide), row_same]; exact h1 a ha) hht htu h400 hb (fun r2 => ?_)
          rw [am_ans_some, b_20i1_82, row_row]
          by_cases h3 : evl l (akF W x o g mi) (l.h (l.n - (m + 1))) (l.t (l.n - (m + 1))) = 0
          · rw [if_pos h3]
            exact next true r r2 (fun _ => h1) (by rw [lnO, if_neg (fun z => z.2.elim h2 (fun z => z h3))])
          · rw [if_neg h3]
            exact stop _ r r2 h1 (by rw [lnO, if_pos ⟨hwe, Or.inr h3⟩])
      rw [b_20i1_6, if_neg (by rw [(hMM r r').n, le_n (by omega) (by omega)]; omega), b_20i1_15 (by first | exact in_n (by omega) (by omega) | (simp only [li, nI_add, pk_mul]; exact in_n (by omega) (by omega))), cl_n (by omega), g32 r r' _ hk]
      by_cases h1 : l.w (l.n - (m + 1)) = w
      · rw [if_pos (by rw [h1]), b_20i1_29]
        cases sn with
        | true =>
          rw [if_pos (by decide)]
          exact test r r' (hsn rfl) h1
        | false =>
          rw [if_neg (fun z => z rfl), b_20i1_34]
          refine x_seesi1 x W (hCC r r') hL hG o g ha.1 ha.2.1 (fun r2 hr2 => ?_)
          rw [am_ans_none, b_20i1_44, row_comm _ _ _ (show 38 ≠ 37 by decide), row_row]
          exact test r2 r' hr2 h1
      · rw [if_neg (by rw [eq_n (by omega) (by omega)]; exact h1), b_20i1_26]
        exact next sn r r' hsn (by rw [lnO, if_neg (fun z => h1 z.1)])
  rw [b_20i1_0, ← row_id M 37, ← row_id (am_row M 37 (M 37)) 38]
  have := key l.n false (M 37) (am_row M 37 (M 37) 38) (Nat.le_refl _) (fun h => by cases h) rfl
  rw [Nat.sub_self] at this
  exact this
end
