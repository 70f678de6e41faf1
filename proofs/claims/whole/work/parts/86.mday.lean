section
/-! A DAY OF THE MODEL -/
theorem adl (n i : Nat) : (OfNat.ofNat n : Int32) + nI i = nI (OfNat.ofNat n + i) := nI_add _ _
abbrev KM (M0 M : am_M) (W B : Rw) : Prop := (M 206 = W) ∧ (M 211 = B) ∧ (∀ a, a ≠ 206 → a ≠ 211 → a ≠ 225 → a ≠ 226 → M a = M0 a)
theorem KM.w {M0 M : am_M} {W B : Rw} (zz : KM M0 M W B) : M 206 = W := zz.1
theorem KM.b {M0 M : am_M} {W B : Rw} (zz : KM M0 M W B) : M 211 = B := zz.2.1
theorem KM.fr {M0 M : am_M} {W B : Rw} (zz : KM M0 M W B) : ∀ a, a ≠ 206 → a ≠ 211 → a ≠ 225 → a ≠ 226 → M a = M0 a := zz.2.2
theorem KM_W {M0 M : am_M} {W B : Rw} (h : KM M0 M W B) (k : Nat) (v : Int32) : KM M0 (am_up M 206 k v) (upd W k v) B := by
  refine ⟨by rw [up_same, h.w], by rw [up_ne _ _ _ (by decide)]; exact h.b, fun a h1 h2 h3 h4 => ?_⟩
  rw [up_ne _ _ _ h1]
  exact h.fr a h1 h2 h3 h4
theorem KM_B {M0 M : am_M} {W B : Rw} (h : KM M0 M W B) (k : Nat) (v : Int32) : KM M0 (am_up M 211 k v) W (upd B k v) := by
  refine ⟨by rw [up_ne _ _ _ (by decide)]; exact h.w, by rw [up_same, h.b], fun a h1 h2 h3 h4 => ?_⟩
  rw [up_ne _ _ _ h2]
  exact h.fr a h1 h2 h3 h4
theorem KM_row {M0 M : am_M} {W B : Rw} (h : KM M0 M W B) {a : Nat} (ha : a = 225 ∨ a = 226) (r : Rw) : KM M0 (am_row M a r) W B := by
  refine ⟨by rw [row_ne _ _ (by omega)]; exact h.w, by rw [row_ne _ _ (by omega)]; exact h.b, fun b h1 h2 h3 h4 => ?_⟩
  rw [row_ne _ _ (by omega)]
  exact h.fr b h1 h2 h3 h4
abbrev MX (M : am_M) (x : Cx) : Prop := (M 205 8 = nI x.L) ∧ (M 205 9 = nI x.G) ∧ (M 205 10 = nI x.T) ∧ (∀ k, k < 6 → M 209 k = x.voice k) ∧ (∀ k, k < 8 → M 210 k = x.base k) ∧ (∀ k, k < 8 → M 224 k = nI (x.up k))
theorem MX.fL {M : am_M} {x : Cx} (zz : MX M x) : M 205 8 = nI x.L := zz.1
theorem MX.fG {M : am_M} {x : Cx} (zz : MX M x) : M 205 9 = nI x.G := zz.2.1
theorem MX.fT {M : am_M} {x : Cx} (zz : MX M x) : M 205 10 = nI x.T := zz.2.2.1
theorem MX.vo {M : am_M} {x : Cx} (zz : MX M x) : ∀ k, k < 6 → M 209 k = x.voice k := zz.2.2.2.1
theorem MX.ba {M : am_M} {x : Cx} (zz : MX M x) : ∀ k, k < 8 → M 210 k = x.base k := zz.2.2.2.2.1
theorem MX.up {M : am_M} {x : Cx} (zz : MX M x) : ∀ k, k < 8 → M 224 k = nI (x.up k) := zz.2.2.2.2.2
abbrev Stm (M0 : am_M) (l : Lw) (x : Cx) (th : Bool) : Prop := (MLw M0 l) ∧ (LwOk l) ∧ (MX M0 x) ∧ (x.L ≤ 6) ∧ (x.G ≤ 8) ∧ (x.T ≤ 10) ∧ (∀ g, g < 8 → x.up g ≤ x.L) ∧ (M0 205 7 = bI th)
theorem Stm.lw {M0 : am_M} {l : Lw} {x : Cx} {th : Bool} (zz : Stm M0 l x th) : MLw M0 l := zz.1
theorem Stm.ok {M0 : am_M} {l : Lw} {x : Cx} {th : Bool} (zz : Stm M0 l x th) : LwOk l := zz.2.1
theorem Stm.mx {M0 : am_M} {l : Lw} {x : Cx} {th : Bool} (zz : Stm M0 l x th) : MX M0 x := zz.2.2.1
theorem Stm.L6 {M0 : am_M} {l : Lw} {x : Cx} {th : Bool} (zz : Stm M0 l x th) : x.L ≤ 6 := zz.2.2.2.1
theorem Stm.G8 {M0 : am_M} {l : Lw} {x : Cx} {th : Bool} (zz : Stm M0 l x th) : x.G ≤ 8 := zz.2.2.2.2.1
theorem Stm.T10 {M0 : am_M} {l : Lw} {x : Cx} {th : Bool} (zz : Stm M0 l x th) : x.T ≤ 10 := zz.2.2.2.2.2.1
theorem Stm.up {M0 : am_M} {l : Lw} {x : Cx} {th : Bool} (zz : Stm M0 l x th) : ∀ g, g < 8 → x.up g ≤ x.L := zz.2.2.2.2.2.2.1
theorem Stm.th {M0 : am_M} {l : Lw} {x : Cx} {th : Bool} (zz : Stm M0 l x th) : M0 205 7 = bI th := zz.2.2.2.2.2.2.2
theorem MLw_of {M M' : am_M} {l : Lw} (h : MLw M l) (e : ∀ a, 214 ≤ a → a ≤ 220 → M' a = M a) : MLw M' l := by
  refine ⟨?_, ?_, ?_, ?_, ?_, ?_, ?_⟩
  · rw [e 214 (by omega) (by omega)]; exact h.n
  · rw [e 215 (by omega) (by omega)]; exact h.w
  · rw [e 216 (by omega) (by omega)]; exact h.f
  · rw [e 217 (by omega) (by omega)]; exact h.h
  · rw [e 218 (by omega) (by omega)]; exact h.t
  · rw [e 219 (by omega) (by omega)]; exact h.op
  · rw [e 220 (by omega) (by omega)]; exact h.ar
theorem KM_lw {M0 M : am_M} {W B : Rw} {l : Lw} {x : Cx} {th : Bool} (h : KM M0 M W B) (hs : Stm M0 l x th) : MLw M l := MLw_of hs.lw (fun a h1 h2 => h.fr a (by omega) (by omega) (by omega) (by omega))
theorem m_asksL {d nS : Nat} {mi : Int32} {M0 : am_M} {x : Cx} {W B : Rw} {l : Lw} {th : Bool} {M : am_M} {Q : Option Value → am_H → Prop} (h : KM M0 M W B) (hs : Stm M0 l x th) (o : Option Nat) (ho : ∀ i, o = some i → i < x.L) (hQ : ∀ M', KM M0 M' W B → (∀ a, a < 9 → M' 225 a = akF W x o none mi a) → Q none (hp nS M')) : am_Wp d 233 0 [.ref 205, .int (oI o), .int mi] [] (hp nS M) Q := by
  suffices H : ∀ r, am_Wp d 233 0 [.ref 205, .int (oI o), .int mi] [] (hp nS (am_row M 225 r)) Q by
    have := H (M 225)
    rw [row_id] at this
    exact this
  intro r
  have hL := hs.L6
  obtain ⟨i0, i1, i2, i3, i6, i7⟩ := in9
  have g206 : ∀ (r : Rw) k, am_row M 225 r 206 k = W k := fun r k => by rw [row_ne _ _ (by decide), h.w]
  have g209 : ∀ (r : Rw) k, k < 6 → am_row M 225 r 209 k = x.voice k := fun r k hk => by rw [row_ne _ _ (by decide), h.fr 209 (by decide) (by decide) (by decide) (by decide)]; exact hs.mx.vo k hk
  have fin : ∀ r' : Rw, (∀ a, a < 9 → r' a = akF W x o none mi a) → Q none (hp nS (am_row M 225 r')) := fun r' hr' => hQ _ (KM_row h (Or.inl rfl) r') (fun a ha => by rw [row_same]; exact hr' a ha)
  cases o with
  | none =>
    rw [show oI none = -1 from rfl, b_233_0, if_neg (fun z => z rfl), b_233_10, b_233_20 i0, if_neg (fun z => z rfl), tc0, up_row, b_233_31, b_233_43 i1, if_neg (fun z => z rfl), tc1, up_row, b_233_54, b_233_67 i2, if_neg (fun z => z rfl), tc2, up_row, b_233_78, b_233_91 i3, if_neg (fun z => z rfl), tc3, up_row, g206, up_row, up_row, up_row, b_233_130, b_233_143 i7, tc7, up_row, g206, up_row]
    exact fin _ (ak_upd W x none none mi _ _ _ _ _ _ _ _ _ _ rfl rfl rfl rfl rfl rfl rfl rfl rfl)
  | some i =>
    have hi := ho i rfl
    have hn : ¬ nI i = -1 := nI_m1 (by omega)
    rw [show oI (some i) = nI i from rfl, b_233_0, if_pos hn, b_233_14 (by first | exact in_n (by omega) (by omega) | (simp only [li, nI_add, pk_mul]; exact in_n (by omega) (by omega))), cl_n (by omega), g209 _ i (by omega), b_233_20 i0, if_pos hn, tc0, up_row, b_233_35 (by rw [adl]; exact in_n (by omega) (by omega)), adl, cl_n (by omega), g206, b_233_43 i1, if_pos hn, tc1, up_row, b_233_58 (by rw [adl]; exact in_n (by omega) (by omega)), adl, cl_n (by omega), g206, b_233_67 i2, if_pos hn, tc2, up_row, b_233_82 (by rw [adl]; exact in_n (by omega) (by omega)), adl, cl_n (by omega), g206, b_233_91 i3, if_pos hn, tc3, up_row, g206, up_row, up_row, up_row, b_233_134 (by rw [adl]; exact in_n (by omega) (by omega)), adl, cl_n (by omega), g206, b_233_143 i7, tc7, up_row, g206, up_row]
    exact fin _ (ak_upd W x (some i) none mi _ _ _ _ _ _ _ _ _ _ rfl rfl rfl rfl rfl rfl rfl rfl rfl)
theorem m_rises {d nS i : Nat} {mi : Int32} {M0 : am_M} {x : Cx} {W B : Rw} {l : Lw} {th : Bool} {M : am_M} {Q : Option Value → am_H → Prop} (h : KM M0 M W B) (hs : Stm M0 l x th) (hi : i < x.L) (hQ : ∀ M', KM M0 M' W B → Q (some (.int (tel l x W 0 (some i) none mi))) (hp nS M')) : am_Wp (d + 4) 232 0 [.ref 205, .int (nI i), .int mi] [] (hp nS M) Q := by
  rw [b_232_0]
  refine m_asksL h hs (some i) (fun k hk => by cases hk; exact hi) (fun M1 h1 a1 => ?_)
  rw [am_ans_none, b_232_6, a1 0 (by omega)]
  refine m_tells (w := 0) l (akF W x (some i) none mi) hs.ok (by omega) (KM_lw h1 hs) a1 (fun r => ?_)
  rw [am_ans_some, b_232_22]
  exact hQ _ (KM_row h1 (Or.inr rfl) r)
theorem m_falls {d nS i : Nat} {mi : Int32} {M0 : am_M} {x : Cx} {W B : Rw} {l : Lw} {th : Bool} {M : am_M} {Q : Option Value → am_H → Prop} (h : KM M0 M W B) (hs : Stm M0 l x th) (hi : i < x.L) (hQ : ∀ M', KM M0 M' W B → Q (some (.int (tel l x W 1 (some i) none mi))) (hp nS M')) : am_Wp (d + 4) 240 0 [.ref 205, .int (nI i), .int mi] [] (hp nS M) Q := by
  rw [b_240_0]
  refine m_asksL h hs (some i) (fun k hk => by cases hk; exact hi) (fun M1 h1 a1 => ?_)
  rw [am_ans_none, b_240_6, a1 0 (by omega), a1 3 (by omega)]
  refine m_tells (w := 1) l (akF W x (some i) none mi) hs.ok (by omega) (KM_lw h1 hs) a1 (fun r => ?_)
  rw [am_ans_some, b_240_37]
  exact hQ _ (KM_row h1 (Or.inr rfl) r)
theorem m_asksFor {d nS g : Nat} {M0 : am_M} {x : Cx} {W B : Rw} {l : Lw} {th : Bool} {M : am_M} {Q : Option Value → am_H → Prop} (h : KM M0 M W B) (hs : Stm M0 l x th) (hg : g < x.G) (hQ : ∀ M', KM M0 M' W B → Q (some (.int (tel l x W 2 (oU x g) (some g) 0))) (hp nS M')) : am_Wp (d + 4) 243 0 [.ref 205, .int (nI g)] [] (hp nS M) Q := by
  have hG := hs.G8
  have hu := hs.up g (by omega)
  have g224 : M 224 g = nI (x.up g) := by rw [h.fr 224 (by decide) (by decide) (by decide) (by decide)]; exact hs.mx.up g (by omega)
  rw [b_243_0 (by first | exact in_n (by omega) (by omega) | (simp only [li, nI_add, pk_mul]; exact in_n (by omega) (by omega))), cl_n (by omega), g224, oU_I]
  refine m_asksL (mi := 0) h hs (oU x g) (oU_ok hu hg).1 (fun M1 h1 a1 => ?_)
  have g210 : M1 210 g = x.base g := by rw [h1.fr 210 (by decide) (by decide) (by decide) (by decide)]; exact hs.mx.ba g (by omega)
  rw [am_ans_none, b_243_13 (by first | exact in_n (by omega) (by omega) | (simp only [li, nI_add, pk_mul]; exact in_n (by omega) (by omega))), cl_n (by omega), g210]
  have h2 : KM M0 (am_up M1 225 6 (x.base g)) W B := KM_row h1 (Or.inl rfl) _
  have a2 : ∀ a, a < 9 → am_up M1 225 6 (x.base g) 225 a = akF W x (oU x g) (some g) 0 a := by
    intro a ha
    rw [up_same, upd_at]
    by_cases c : a = 6
    · rw [if_pos c, c]; rfl
    · rw [if_neg c, a1 a ha]
      have : a = 0 ∨ a = 1 ∨ a = 2 ∨ a = 3 ∨ a = 4 ∨ a = 5 ∨ a = 7 ∨ a = 8 := by omega
      rcases this with rfl | rfl | rfl | rfl | rfl | rfl | rfl | rfl <;> rfl
  rw [a2 6 (by omega), a2 1 (by omega)]
  refine m_tells (w := 2) l (akF W x (oU x g) (some g) 0) hs.ok (by omega) (KM_lw h2 hs) a2 (fun r => ?_)
  rw [am_ans_some, b_243_52]
  exact hQ _ (KM_row h2 (Or.inr rfl) r)
theorem m_nt {d nS : Nat} {M0 : am_M} {x : Cx} {W B : Rw} {l : Lw} {th : Bool} {wh wo mu : Int32} {M : am_M} {Q : Option Value → am_H → Prop} (h : KM M0 M W B) (hs : Stm M0 l x th) (ho : wrO W) (hQ : ∀ M', KM M0 M' (nt th wh wo mu (W, B)).1 (nt th wh wo mu (W, B)).2 → Q none (hp nS M')) : am_Wp d 226 0 [.ref 205, .int wh, .int wo, .int mu, .retAddr 0] [] (hp nS M) Q := by
  obtain ⟨k, hk, hk150⟩ := ho
  have e2 : M 206 2 = nI k := by rw [h.w]; exact hk
  have e7 : M 205 7 = bI th := by rw [h.fr 205 (by decide) (by decide) (by decide) (by decide)]; exact hs.th
  have m4 : (4 : Int32) * nI k = nI (4 * k) := pk_mul 4 k
  have a1 : nI (4 * k) + 1 = nI (4 * k + 1) := nI_add _ 1
  have a2 : nI (4 * k) + 2 = nI (4 * k + 2) := nI_add _ 2
  have a3 : nI (4 * k) + 3 = nI (4 * k + 3) := nI_add _ 3
  have hlt : ∀ {R : Prop}, ¬ M 206 2 = 150 → (k < 150 → R) → R := fun hl hr => hr (by rw [e2, li, eq_n (by omega) (by omega)] at hl; omega)
  rw [c_226 (fun _ hl => hlt hl (fun hl => by rw [e2, m4]; exact in_n (by omega) (by omega))) (fun _ hl => hlt hl (fun hl => by rw [e2, m4, a1]; exact in_n (by omega) (by omega))) (fun _ hl => hlt hl (fun hl => by rw [e2, m4, a2]; exact in_n (by omega) (by omega))) (fun _ hl => hlt hl (fun hl => by rw [e2, m4, a3]; exact in_n (by omega) (by omega)))]
  cases th with
  | true =>
    rw [if_pos (by rw [e7]; decide)]
    exact hQ M h
  | false =>
    have kk : ntK W = k := by unfold ntK; rw [hk, cl_n (by omega)]
    rw [if_neg (fun z => z (by rw [e7]; rfl))]
    by_cases h150 : k = 150
    · rw [if_neg (fun z => z (by rw [e2, h150]; rfl))]
      have e : nt false wh wo mu (W, B) = (W, B) := if_pos (Or.inr (by show W 2 = 150; rw [hk, h150]; rfl))
      rw [e] at hQ
      exact hQ M h
    · have e : nt false wh wo mu (W, B) = (upd W 2 (W 2 + 1), upd (upd (upd (upd B (4 * k) (W 0)) (4 * k + 1) wh) (4 * k + 2) wo) (4 * k + 3) mu) := by
        unfold nt
        rw [if_neg (show ¬ (false = true ∨ (W, B).1 2 = 150) from fun z => z.elim (fun z => by cases z) (fun z => by
          have z : W 2 = 150 := z
          rw [hk, li, eq_n (by omega) (by omega)] at z
          exact h150 z))]
        show (upd W 2 (W 2 + 1), upd (upd (upd (upd B (4 * ntK W) (W 0)) (4 * ntK W + 1) wh) (4 * ntK W + 2) wo) (4 * ntK W + 3) mu) = _
        rw [kk]
      rw [e] at hQ
      rw [if_pos (by rw [e2, li, eq_n (by omega) (by omega)]; exact h150), e2, m4, a1, a2, a3, cl_n (by omega), cl_n (by omega), cl_n (by omega), cl_n (by omega), show M 206 0 = W 0 by rw [h.w]]
      have k4 := KM_B (KM_B (KM_B (KM_B h (4 * k) (W 0)) (4 * k + 1) wh) (4 * k + 2) wo) (4 * k + 3) mu
      rw [k4.w]
      exact hQ _ (KM_W k4 2 _)
theorem m_hap {d nS : Nat} {M0 : am_M} {x : Cx} {W B : Rw} {l : Lw} {th : Bool} {fl : Int32} {M : am_M} {Q : Option Value → am_H → Prop} (h : KM M0 M W B) (hs : Stm M0 l x th) (hQ : ∀ M', KM M0 M' (hap th fl W).1 B → Q (some (.int (bI (hap th fl W).2))) (hp nS M')) : am_Wp (d + 1) 241 0 [.ref 205, .int fl] [] (hp nS M) Q := by
  have e7 : M 205 7 = bI th := by rw [h.fr 205 (by decide) (by decide) (by decide) (by decide)]; exact hs.th
  rw [c_241 (fun _ _ => by decide)]
  cases th with
  | true =>
    have e : hap true fl W = (W, !decide (2 * fl < 1000)) := if_pos rfl
    rw [e] at hQ
    have hq := hQ M h
    rw [if_neg (by rw [e7]; decide)]
    by_cases c : 2 * fl < 1000
    · rw [decide_eq_true c] at hq
      rw [if_pos c]
      exact hq
    · rw [decide_eq_false c] at hq
      rw [if_neg c]
      exact hq
  | false =>
    rw [if_pos (by rw [e7]; rfl)]
    by_cases h0 : fl ≤ 0
    · have e : hap false fl W = (W, false) := by unfold hap; rw [if_neg (by decide), if_pos h0]
      rw [e] at hQ
      rw [if_pos h0]
      exact hQ M h
    · have e : hap false fl W = (upd W 1 (1664525 * W 1 + 1013904223), !decide (fl ≤ rnd (1664525 * W 1 + 1013904223))) := by unfold hap; rw [if_neg (by decide), if_neg h0]
      rw [e] at hQ
      rw [if_neg h0, up_same, upd_same, show M 206 1 = W 1 by rw [h.w]]
      have hq := hQ _ (KM_W h 1 (1664525 * W 1 + 1013904223))
      show (if fl ≤ rnd (1664525 * W 1 + 1013904223) then _ else _)
      by_cases h1 : fl ≤ rnd (1664525 * W 1 + 1013904223)
      · rw [if_pos h1]
        rw [decide_eq_true h1] at hq
        exact hq
      · rw [if_neg h1]
        rw [decide_eq_false h1] at hq
        exact hq
theorem m_sgM {d nS i : Nat} {M0 : am_M} {x : Cx} {l : Lw} {B : Rw} {th : Bool} {Q : Option Value → am_H → Prop} (hs : Stm M0 l x th) (hi : i < x.L) : ∀ (m : Nat) (W : Rw) (M : am_M), m ≤ 30 → KM M0 M W B → (∀ M' x3, KM M0 M' (sgM l x th i m W).1 B → am_Wp (d + 5) 231 100 [.ref 205, .int (nI i), .int (bI (sgM l x th i m W).2), .int x3] [] (hp nS M') Q) → am_Wp (d + 5) 231 13 [.ref 205, .int (nI i), .int 0, .int (nI (30 - m))] [] (hp nS M) Q := by
  have hL := hs.L6
  intro m
  induction m with
  | zero =>
    intro W M _ h hQ
    rw [b_231_13, if_pos (by decide)]
    exact hQ M _ h
  | succ m ih =>
    intro W M hm h hQ
    have e30 : 30 - (m + 1) = 29 - m := by omega
    have e31 : 29 - m + 1 = 30 - m := by omega
    rw [e30, b_231_13, if_neg (by rw [li, le_n (by omega) (by omega)]; omega), b_231_19, if_neg (fun z => z rfl), b_231_23 (by rw [adl]; exact in_n (by omega) (by omega)), adl, cl_n (by omega), show M 206 (4 + i) = W (4 + i) by rw [h.w]]
    refine m_rises h hs hi (fun M1 h1 => ?_)
    have h2 := KM_W h1 (4 + i) (mnI 999 (W (4 + i) + tel l x W 0 (some i) none (nI (29 - m))))
    rw [am_ans_some, b_231_48, c_225, am_ans_some, b_231_52 (by first | exact in_n (by omega) (by omega) | (simp only [li, nI_add, pk_mul]; exact in_n (by omega) (by omega))) (by rw [adl]; exact in_n (by omega) (by omega)) (by rw [adl]; exact in_n (by omega) (by omega)), adl, adl, cl_n (by omega), cl_n (by omega)]
    show am_Wp (d + 4) 239 0 [.ref 205, .int (am_up M1 206 (4 + i) (mnI 999 (W (4 + i) + tel l x W 0 (some i) none (nI (29 - m)))) 206 (10 + i)), .int (am_up M1 206 (4 + i) (mnI 999 (W (4 + i) + tel l x W 0 (some i) none (nI (29 - m)))) 206 (4 + i))] [] (hp nS (am_up M1 206 (4 + i) (mnI 999 (W (4 + i) + tel l x W 0 (some i) none (nI (29 - m)))))) _
    rw [h2.w, c_239, am_ans_some, b_231_82 (by first | exact in_n (by omega) (by omega) | (simp only [li, nI_add, pk_mul]; exact in_n (by omega) (by omega))), cl_n (by omega)]
    have h3 : KM M0 _ (ris l x i (nI (29 - m)) W) B := KM_W h2 (10 + i) (mxI (upd W (4 + i) (mnI 999 (W (4 + i) + tel l x W 0 (some i) none (nI (29 - m)))) (10 + i)) (upd W (4 + i) (mnI 999 (W (4 + i) + tel l x W 0 (some i) none (nI (29 - m)))) (4 + i)))
    refine m_falls h3 hs hi (fun M4 h4 => ?_)
    rw [am_ans_some, b_231_90]
    refine m_hap h4 hs (fun M5 h5 => ?_)
    rw [am_ans_some, b_231_93, nI_1, e31]
    have eq : sgM l x th i (m + 1) W = if (hap th (tel l x (ris l x i (nI (29 - m)) W) 1 (some i) none (nI (29 - m))) (ris l x i (nI (29 - m)) W)).2 = true then hap th (tel l x (ris l x i (nI (29 - m)) W) 1 (some i) none (nI (29 - m))) (ris l x i (nI (29 - m)) W) else sgM l x th i m (hap th (tel l x (ris l x i (nI (29 - m)) W) 1 (some i) none (nI (29 - m))) (ris l x i (nI (29 - m)) W)).1 := rfl
    rw [eq] at hQ
    cases hf : (hap th (tel l x (ris l x i (nI (29 - m)) W) 1 (some i) none (nI (29 - m))) (ris l x i (nI (29 - m)) W)).2 with
    | true =>
      rw [if_pos hf] at hQ
      rw [hf] at hQ
      rw [b_231_13]
      by_cases h30 : 30 ≤ 30 - m
      · rw [if_pos (by rw [li, le_n (by omega) (by omega)]; exact h30)]
        exact hQ M5 _ h5
      · rw [if_neg (by rw [li, le_n (by omega) (by omega)]; exact h30), b_231_19, if_pos (by decide)]
        exact hQ M5 _ h5
    | false =>
      rw [if_neg (by rw [hf]; decide)] at hQ
      exact ih _ M5 (by omega) h5 hQ
theorem m_sgE {d nS i : Nat} {M0 : am_M} {x : Cx} {l : Lw} {W B : Rw} {th f : Bool} {x3 : Int32} {M : am_M} {Q : Option Value → am_H → Prop} (h : KM M0 M W B) (hs : Stm M0 l x th) (hi : i < 6) (ho : wrO W) (hQ : ∀ M', KM M0 M' (sgE th i f (W, B)).1 (sgE th i f (W, B)).2 → Q (some (.int (bI f))) (hp nS M')) : am_Wp (d + 1) 231 100 [.ref 205, .int (nI i), .int (bI f), .int x3] [] (hp nS M) Q := by
  have fin : ∀ (p : Rw × Rw) M', KM M0 M' p.1 p.2 → sgE th i f (W, B) = (upd p.1 (22 + i) (mxI 0 (p.1 (22 + i) - 1)), p.2) → am_Wp (d + 1) 231 160 [.ref 205, .int (nI i), .int (bI f), .int x3] [] (hp nS M') Q := by
    intro p M' h' e
    rw [b_231_160 (by rw [adl]; exact in_n (by omega) (by omega)), adl, cl_n (by omega), h'.w, c_239, am_ans_some, b_231_184 (by first | exact in_n (by omega) (by omega) | (simp only [li, nI_add, pk_mul]; exact in_n (by omega) (by omega))) (rokI f), cl_n (by omega)]
    rw [e] at hQ
    exact hQ _ (KM_W h' (22 + i) _)
  rw [b_231_100]
  cases f with
  | true =>
    rw [if_neg (by decide), b_231_104 (by rw [adl]; exact in_n (by omega) (by omega)), adl, cl_n (by omega), h.w]
    refine m_nt h hs ho (fun M' h' => ?_)
    rw [am_ans_none, b_231_118, if_pos (by decide)]
    exact fin (nt th 0 (nI i) (W (4 + i)) (W, B)) M' h' rfl
  | false =>
    rw [if_pos (show bI false = 0 from rfl), b_231_118, if_neg (fun z => z rfl), b_231_122 (by rw [adl]; exact in_n (by omega) (by omega)), adl, cl_n (by omega), h.w]
    by_cases h5 : W (4 + i) < 500
    · rw [if_pos h5]
      refine fin (W, B) M h ?_
      unfold sgE
      simp only [if_neg (show ¬ false = true by decide), if_pos h5]
    · have h1 := KM_W h (16 + i) 1
      rw [if_neg h5, b_231_136 (by rw [adl]; exact in_n (by omega) (by omega)) (by rw [adl]; exact in_n (by omega) (by omega)), adl, adl, cl_n (by omega), cl_n (by omega), h1.w, upd_ne _ _ (by omega)]
      refine m_nt h1 hs (by obtain ⟨k, hk, h150⟩ := ho; exact ⟨k, by rw [upd_ne _ _ (by omega)]; exact hk, h150⟩) (fun M' h' => ?_)
      rw [am_ans_none]
      refine fin (nt th 1 (nI i) (W (4 + i)) (upd W (16 + i) 1, B)) M' h' ?_
      unfold sgE
      simp only [if_neg (show ¬ false = true by decide), if_neg h5]
theorem m_sng {d nS i : Nat} {M0 : am_M} {x : Cx} {l : Lw} {W B : Rw} {th : Bool} {M : am_M} {Q : Option Value → am_H → Prop} (h : KM M0 M W B) (hs : Stm M0 l x th) (hi : i < x.L) (ho : wrO W) (hQ : ∀ M', KM M0 M' (sng l x th i (W, B)).1.1 (sng l x th i (W, B)).1.2 → Q (some (.int (bI (sng l x th i (W, B)).2))) (hp nS M')) : am_Wp (d + 5) 231 0 [.ref 205, .int (nI i), .retAddr 0, .retAddr 0] [] (hp nS M) Q := by
  have hL := hs.L6
  have ho' : wrO (sgM l x th i 30 (upd W (4 + i) 0)).1 := by
    obtain ⟨k, hk, h150⟩ := ho
    exact ⟨k, by rw [sgM_j _ _ _ _ _ (by omega) (by omega) (by omega), upd_ne _ _ (by omega)]; exact hk, h150⟩
  rw [b_231_0 (by rw [adl]; exact in_n (by omega) (by omega)), adl, cl_n (by omega)]
  refine m_sgM hs hi 30 (upd W (4 + i) 0) _ (by omega) (KM_W h (4 + i) 0) (fun M' x3 h' => ?_)
  exact m_sgE h' hs (by omega) ho' hQ
end
