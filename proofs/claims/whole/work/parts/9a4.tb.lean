section
/-! TEXT 3: the town with its goods bound anew -/
def xU (x : Cx) (u : Nat → Nat) : Cx := (x.L, x.G, x.T, x.voice, x.base, u)
def tB (t : Tn) (b : Bd) : Tn := tO (tX t (xU t.x (fun g => upB b.2.1 b.2.2 b.1 g)) t.W) b.1
theorem CW_U {w : Nat} {M M' : am_M} {x : Cx} {W : Nat → Int32} {u : Nat → Nat} (h : CW w M x W) (h7 : ∀ k, k < x.G → M' (w + 7) k = nI (u k) - 1) (e : ∀ a, w ≤ a → a ≤ w + 11 → ¬ a = w + 7 → M' a = M a) : CW w M' (xU x u) W := by
  refine ⟨?_, ?_, ?_, ?_, ?_, ?_, ?_, ?_, ?_, ?_, ?_, ?_, ?_, h7, ?_, ?_, ?_, ?_⟩
  · rw [e w (by omega) (by omega) (by omega)]; exact h.fL
  · rw [e w (by omega) (by omega) (by omega)]; exact h.fG
  · rw [e w (by omega) (by omega) (by omega)]; exact h.fT
  · rw [e w (by omega) (by omega) (by omega)]; exact h.wi
  · rw [e w (by omega) (by omega) (by omega)]; exact h.da
  · rw [e w (by omega) (by omega) (by omega)]; exact h.dr
  · rw [e w (by omega) (by omega) (by omega)]; exact h.wr
  · rw [e (w + 1) (by omega) (by omega) (by omega)]; exact h.vo
  · rw [e (w + 2) (by omega) (by omega) (by omega)]; exact h.he
  · rw [e (w + 3) (by omega) (by omega) (by omega)]; exact h.tp
  · rw [e (w + 4) (by omega) (by omega) (by omega)]; exact h.lo
  · rw [e (w + 5) (by omega) (by omega) (by omega)]; exact h.sc
  · rw [e (w + 6) (by omega) (by omega) (by omega)]; exact h.ba
  · rw [e (w + 8) (by omega) (by omega) (by omega)]; exact h.pr
  · rw [e (w + 9) (by omega) (by omega) (by omega)]; exact h.pu
  · rw [e (w + 10) (by omega) (by omega) (by omega)]; exact h.ru
  · rw [e (w + 11) (by omega) (by omega) (by omega)]; exact h.st
theorem CT_B {b : Nat} {M M' : am_M} {t : Tn} {x' : Cx} {W' : Rw} {bn' : Nat} (h : CT b M t) (hb : b = 17 ∨ b = 59) (h0 : CW (b + 1) M' x' W') (h1 : M' (b + 26) 1 = nI bn') (e : ∀ a k, b ≤ a → a ≤ b + 41 → ¬ (b + 1 ≤ a ∧ a ≤ b + 12) → ¬ (a = b + 26 ∨ a = b + 27) → ¬ (a = b + 20 ∨ a = b + 21 ∨ a = b + 30 ∨ a = b + 31 ∨ a = b + 32 ∨ a = b + 35 ∨ a = b + 36 ∨ a = b + 41 ∨ (a = b + 37 ∧ (k = 5 ∨ k = 6))) → M' a k = M a k) : CT b M' (tO (tX t x' W') bn') := by
  have r : ∀ a, b ≤ a → a ≤ b + 41 → ¬ ((b + 1 ≤ a ∧ a ≤ b + 12) ∨ a = b + 26 ∨ a = b + 27 ∨ a = b + 20 ∨ a = b + 21 ∨ a = b + 30 ∨ a = b + 31 ∨ a = b + 32 ∨ a = b + 35 ∨ a = b + 36 ∨ a = b + 41 ∨ a = b + 37) → M' a = M a := fun a h1 h2 h3 => funext fun k => e a k h1 h2 (by omega) (by omega) (by omega)
  exact ⟨(h0), (by rw [r (b + 13) (by omega) (by omega) (by omega)]; exact h.bk), (CLw_of h.lw (fun a h1 h2 => r a (by omega) (by omega) (by omega))), (CDn_of h.dn (r _ (by omega) (by omega) (by omega)) (r _ (by omega) (by omega) (by omega))), (CTr_of h.tr (r _ (by omega) (by omega) (by omega)) (r _ (by omega) (by omega) (by omega))), (h1), (by rw [r (b + 28) (by omega) (by omega) (by omega)]; exact h.pn), (by rw [r (b + 29) (by omega) (by omega) (by omega)]; exact h.pr), (by rw [r (b + 33) (by omega) (by omega) (by omega)]; exact h.wn), (by rw [r (b + 34) (by omega) (by omega) (by omega)]; exact h.we), (by rw [r (b + 38) (by omega) (by omega) (by omega)]; exact h.rt), (by rw [e (b + 37) 3 (by omega) (by omega) (by omega) (by omega) (by omega)]; exact h.sn), (by rw [r (b + 39) (by omega) (by omega) (by omega)]; exact h.sw), (by rw [r (b + 40) (by omega) (by omega) (by omega)]; exact h.sv)⟩
theorem MT_B {M M' : am_M} {t : Tn} {b : Bd} (h : MTV M t) (g : bdT t) (h0 : ∀ q, q < 8 → M' 224 q = nI (upB b.2.1 b.2.2 b.1 q)) (h1 : M' 205 41 = nI b.1) (e : ∀ a k, ¬ (a = 224 ∨ (a = 205 ∧ (k = 5 ∨ k = 41))) → M' a k = M a k) : MTV M' (tB t b) := by
  have a1 : ∀ k, (if (224 : Nat) = 224 then M' 224 k else M 224 k) = M' 224 k := fun k => if_pos rfl
  have tx : MTV (fun a k => if a = 224 then M' a k else M a k) (tX t (xU t.x (fun q => upB b.2.1 b.2.2 b.1 q)) t.W) := MT_X h g (fun k hk => h.w k hk) ⟨h.mx.fL, h.mx.fG, h.mx.fT, fun k hk => h.mx.vo k hk, fun k hk => h.mx.ba k hk, fun k hk => h0 k hk⟩ (fun a k _ _ h3 => if_neg (fun z => h3 (by omega)))
  have g' : bdT (tX t (xU t.x (fun q => upB b.2.1 b.2.2 b.1 q)) t.W) := ⟨g.l, g.u, g.d, g.r, g.p, g.s⟩
  have to : MTV (am_up (fun a k => if a = 224 then M' a k else M a k) 205 41 (nI b.1)) (tB t b) := MT_O tx g' (by rw [up_same, upd_same]) (fun a k _ _ h3 => up_pt _ _ h3)
  have g2 : bdT (tB t b) := ⟨g.l, g.u, g.d, g.r, g.p, g.s⟩
  refine MTV_5e to g2 (fun a k h5 => ?_)
  by_cases c : a = 205 ∧ k = 41
  · rw [c.1, c.2, up_same, upd_same]; exact h1
  · rw [up_pt _ _ c]
    show M' a k = if a = 224 then M' a k else M a k
    by_cases d : a = 224
    · rw [if_pos d]
    · rw [if_neg d]; exact e a k (by omega)
theorem GT_B {c : Nat} {t : Tn} {b : Bd} (h : GT c t) (hn : b.1 ≤ 16) (hb : ∀ i, i < b.1 → b.2.1 i < t.x.G ∧ b.2.2 i < t.x.L) : GT c (tB t b) :=
  ⟨h.L6, h.G8, h.T10, fun g _ => upB_le b.1 g (fun i hi => (hb i hi).2), fun g _ hg => upB_0 b.1 g (fun i hi => (hb i hi).1) hg, h.ok, h.dk, h.tk, hn, h.p14, h.pr, h.w14, h.we, h.rt, h.r0, h.s8, h.sw, h.sv, h.wg⟩
end
