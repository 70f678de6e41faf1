section
/-! A DAY, as both have it: on the row of numbers W and the book B -/
def mnI (a b : Int32) : Int32 := if b ≤ a then b else a
def mxI (a b : Int32) : Int32 := if a ≤ b then b else a
theorem mn_lt (a b : Int32) : (if b < a then b else a) = mnI a b := by
  unfold mnI
  by_cases h : b < a
  · rw [if_pos h, if_pos (Int32.le_of_lt h)]
  · rw [if_neg h]
    by_cases h2 : b ≤ a
    · rw [if_pos h2]; exact Int32.le_antisymm (le_of' h) h2
    · rw [if_neg h2]
theorem mx_lt (a b : Int32) : (if a < b then b else a) = mxI a b := by
  unfold mxI
  by_cases h : a < b
  · rw [if_pos h, if_pos (Int32.le_of_lt h)]
  · rw [if_neg h]
    by_cases h2 : a ≤ b
    · rw [if_pos h2]; exact Int32.le_antisymm h2 (le_of' h)
    · rw [if_neg h2]
abbrev Rw := Nat → Int32
def ntK (W : Rw) : Nat := (W 2).toNatClampNeg
def nt (th : Bool) (wh wo mu : Int32) (p : Rw × Rw) : Rw × Rw := if th = true ∨ p.1 2 = 150 then p else (upd p.1 2 (p.1 2 + 1), upd (upd (upd (upd p.2 (4 * ntK p.1) (p.1 0)) (4 * ntK p.1 + 1) wh) (4 * ntK p.1 + 2) wo) (4 * ntK p.1 + 3) mu)
def wrO (W : Rw) : Prop := ∃ k, W 2 = nI k ∧ k ≤ 150
def tel (l : Lw) (x : Cx) (W : Rw) (w : Nat) (o g : Option Nat) (mi : Int32) : Int32 := telV l (akF W x o g mi) w (usV w (akF W x o g mi)) (loV w) (hiV w)
def rnd (v : Int32) : Int32 := (v.toUInt32 >>> ((8 : Int32).toUInt32 &&& Int32.toUInt32 31)).toInt32 - (v.toUInt32 >>> ((8 : Int32).toUInt32 &&& Int32.toUInt32 31)).toInt32 / 1000 * 1000
/-- whether it falls by these odds -/
def hap (th : Bool) (fl : Int32) (W : Rw) : Rw × Bool := if th = true then (W, !decide (2 * fl < 1000)) else if fl ≤ 0 then (W, false) else (upd W 1 (1664525 * W 1 + 1013904223), !decide (fl ≤ rnd (1664525 * W 1 + 1013904223)))
def ris (l : Lw) (x : Cx) (i : Nat) (mi : Int32) (W : Rw) : Rw :=
  let W1 := upd W (4 + i) (mnI 999 (W (4 + i) + tel l x W 0 (some i) none mi))
  upd W1 (10 + i) (mxI (W1 (10 + i)) (W1 (4 + i)))
/-- the m last minutes of a song -/
def sgM (l : Lw) (x : Cx) (th : Bool) (i : Nat) : Nat → Rw → Rw × Bool
  | 0, W => (W, false)
  | m + 1, W =>
    let W2 := ris l x i (nI (29 - m)) W
    let q := hap th (tel l x W2 1 (some i) none (nI (29 - m))) W2
    if q.2 = true then q else sgM l x th i m q.1
def sgE (th : Bool) (i : Nat) (f : Bool) (p : Rw × Rw) : Rw × Rw :=
  let p1 := if f = true then nt th 0 (nI i) (p.1 (4 + i)) p else if p.1 (4 + i) < 500 then p else nt th 1 (nI i) (p.1 (4 + i)) (upd p.1 (16 + i) 1, p.2)
  (upd p1.1 (22 + i) (mxI 0 (p1.1 (22 + i) - 1)), p1.2)
def sng (l : Lw) (x : Cx) (th : Bool) (i : Nat) (p : Rw × Rw) : (Rw × Rw) × Bool :=
  let q := sgM l x th i 30 (upd p.1 (4 + i) 0)
  (sgE th i q.2 (q.1, p.2), q.2)
/-! the class -/
theorem x_nt {d nS : Nat} {M0 : am_M} {x : Cx} {W B : Rw} {wh wo mu : Int32} {M : am_M} {Q : Option Value → am_H → Prop} (h : KC 18 M0 M x W B) (ho : wrO W) (hQ : ∀ M', KC 18 M0 M' x (nt false wh wo mu (W, B)).1 (nt false wh wo mu (W, B)).2 → Q none (hp nS M')) : am_Wp d 93 0 [.ref 17, .ref 18, .int wh, .int wo, .int mu, .int 1, .retAddr 0] [] (hp nS M) Q := by
  obtain ⟨k, hk, hk150⟩ := ho
  have e6 : M 18 6 = nI k := h.cw.wr.trans hk
  have m4 : nI k * 4 = nI (4 * k) := by rw [Nat.mul_comm]; exact pk_mul k 4
  have a1 : nI (4 * k) + 1 = nI (4 * k + 1) := nI_add _ 1
  have a2 : nI (4 * k) + 2 = nI (4 * k + 2) := nI_add _ 2
  have a3 : nI (4 * k) + 3 = nI (4 * k + 3) := nI_add _ 3
  have hlt : ∀ {P : Prop}, M 18 6 < 150 → (k < 150 → P) → P := fun hl hp => hp (by rw [e6, li, lt_n (by omega) (by omega)] at hl; exact hl)
  rw [c_93 (fun _ hl => hlt hl (fun hl => by rw [e6, m4]; exact in_n (by omega) (by omega))) (fun _ hl => hlt hl (fun hl => by rw [e6, m4, a1]; exact in_n (by omega) (by omega))) (fun _ hl => hlt hl (fun hl => by rw [e6, m4, a2]; exact in_n (by omega) (by omega))) (fun _ hl => hlt hl (fun hl => by rw [e6, m4, a3]; exact in_n (by omega) (by omega))), if_neg (by decide)]
  have kk : ntK W = k := by unfold ntK; rw [hk, cl_n (by omega)]
  by_cases h150 : k = 150
  · rw [if_neg (by rw [e6, h150]; decide)]
    have e : nt false wh wo mu (W, B) = (W, B) := if_pos (Or.inr (by show W 2 = 150; rw [hk, h150]; rfl))
    rw [e] at hQ
    exact hQ M h
  · have e : nt false wh wo mu (W, B) = (upd W 2 (W 2 + 1), upd (upd (upd (upd B (4 * k) (W 0)) (4 * k + 1) wh) (4 * k + 2) wo) (4 * k + 3) mu) := by
      unfold nt
      rw [if_neg (show ¬ (false = true ∨ (W, B).1 2 = 150) from fun z => z.elim (fun z => by cases z) (fun z => by
        have z : W 2 = 150 := z
        rw [hk, li, eq_n (by omega) (by omega)] at z
        exact h150 z))]
      show (upd W 2 (W 2 + 1), upd (upd (upd (upd B (4 * ntK W) (W 0)) (4 * ntK W + 1) wh) (4 * ntK W + 2) wo) (4 * ntK W + 3) mu) = _
      rw [kk]
    rw [e] at hQ
    rw [if_pos (by rw [e6, li, lt_n (by omega) (by omega)]; omega), e6, m4, a1, a2, a3, cl_n (by omega), cl_n (by omega), cl_n (by omega), cl_n (by omega), h.cw.da]
    have k4 := KC_bk (KC_bk (KC_bk (KC_bk h (Or.inl rfl) (4 * k) (W 0)) (Or.inl rfl) (4 * k + 1) wh) (Or.inl rfl) (4 * k + 2) wo) (Or.inl rfl) (4 * k + 3) mu
    rw [k4.cw.wr]
    exact hQ _ (KC_wr k4 (Or.inl rfl) _)
theorem x_nti1 {d nS : Nat} {M0 : am_M} {x : Cx} {W B : Rw} {wh wo mu : Int32} {M : am_M} {Q : Option Value → am_H → Prop} (h : KC 101 M0 M x W B) (ho : wrO W) (hQ : ∀ M', KC 101 M0 M' x (nt true wh wo mu (W, B)).1 (nt true wh wo mu (W, B)).2 → Q none (hp nS M')) : am_Wp d 93 0 [.ref 17, .ref 101, .int wh, .int wo, .int mu, .int 0, .retAddr 0] [] (hp nS M) Q := by
  rw [c_93i1 (fun z => absurd rfl z) (fun z => absurd rfl z) (fun z => absurd rfl z) (fun z => absurd rfl z), if_pos rfl]
  exact hQ M h
theorem hv_0 {v : Int32} : ∃ n, hvV 0 1000 v = nI n ∧ n ≤ 1000 := by
  unfold hvV
  by_cases h1 : (0 : Int32) ≤ v
  · rw [if_pos h1]
    by_cases h2 : v ≤ 1000
    · rw [if_pos h2]
      obtain ⟨k, hk, _, h3⟩ := in_ex (x := v) (lo := 0) (hi := 1000) (not_lt' h1) (not_lt' h2) (by omega) (by omega)
      exact ⟨k, hk, h3⟩
    · rw [if_neg h2]; exact ⟨1000, rfl, by omega⟩
  · rw [if_neg h1]; exact ⟨0, rfl, by omega⟩
theorem tel_1 (l : Lw) (x : Cx) (W : Rw) (o g : Option Nat) (mi : Int32) : ∃ n, tel l x W 1 o g mi = nI n ∧ n ≤ 1000 := by
  unfold tel telV
  cases lnO l (akF W x o g mi) 1 l.n with
  | none => exact hv_0
  | some k => exact hv_0
theorem x_hap {d nS : Nat} {M0 : am_M} {x : Cx} {W B : Rw} {fl x2 x4 x5 : Int32} {z6 : Value} {M : am_M} {Q : Option Value → am_H → Prop} (h : KC 18 M0 M x W B) (hQ : ∀ M', KC 18 M0 M' x (hap false fl W).1 B → am_Wp (d + 1) 97 100 [.ref 17, .ref 18, .int x2, .int 1, .int x4, .int x5, .int fl] [.int (bI (hap false fl W).2)] (hp nS M') Q) : am_Wp (d + 1) 97 56 [.ref 17, .ref 18, .int x2, .int 1, .int x4, .int x5, z6] [.int fl] (hp nS M) Q := by
  rw [b_97_56, if_neg (by decide), b_97_62]
  by_cases h0 : fl ≤ 0
  · have e : hap false fl W = (W, false) := by unfold hap; rw [if_neg (by decide), if_pos h0]
    rw [e] at hQ
    rw [if_pos h0, b_97_83]
    exact hQ M h
  · have e : hap false fl W = (upd W 1 (1664525 * W 1 + 1013904223), !decide (fl ≤ rnd (1664525 * W 1 + 1013904223))) := by unfold hap; rw [if_neg (by decide), if_neg h0]
    rw [e] at hQ
    rw [if_neg h0, b_97_67, c_115 (fun _ => by decide), if_neg (by decide), am_ans_some, b_97_74, up_same, upd_same, h.cw.dr, Int32.mul_comm (W 1) 1664525]
    have hk := KC_dr h (Or.inl rfl) (1664525 * W 1 + 1013904223)
    have hq := hQ _ hk
    show (if fl ≤ rnd (1664525 * W 1 + 1013904223) then _ else _)
    by_cases h1 : fl ≤ rnd (1664525 * W 1 + 1013904223)
    · rw [if_pos h1, b_97_83]
      rw [decide_eq_true h1] at hq
      exact hq
    · rw [if_neg h1, b_97_79]
      rw [decide_eq_false h1] at hq
      exact hq
theorem x_hapi1 {d nS : Nat} {M0 : am_M} {x : Cx} {W B : Rw} {fl x2 x4 x5 : Int32} {z6 : Value} {M : am_M} {Q : Option Value → am_H → Prop} (hf : ∃ n, fl = nI n ∧ n ≤ 1000) (h : KC 101 M0 M x W B) (hQ : ∀ M', KC 101 M0 M' x (hap true fl W).1 B → am_Wp (d + 1) 97 100 [.ref 17, .ref 101, .int x2, .int 0, .int x4, .int x5, .int fl] [.int (bI (hap true fl W).2)] (hp nS M') Q) : am_Wp (d + 1) 97 56 [.ref 17, .ref 101, .int x2, .int 0, .int x4, .int x5, z6] [.int fl] (hp nS M) Q := by
  obtain ⟨n, rfl, hn⟩ := hf
  have e : hap true (nI n) W = (W, !decide (n < 500)) := by
    have e2 : (2 : Int32) * nI n = nI (2 * n) := pk_mul 2 n
    unfold hap
    rw [if_pos rfl, e2]
    have : decide (nI (2 * n) < 1000) = decide (n < 500) := decide_eq_decide.mpr (by
      rw [show (1000 : Int32) = nI 1000 from rfl, lt_n (by omega) (by omega)]
      exact ⟨fun h => by omega, fun h => by omega⟩)
    rw [this]
  rw [e] at hQ
  have hq := hQ M h
  rw [b_97i1_56, if_pos rfl, b_97i1_87]
  by_cases h1 : n < 500
  · rw [if_pos (by rw [li, lt_n (by omega) (by omega)]; exact h1), b_97i1_99]
    rw [decide_eq_true h1] at hq
    exact hq
  · rw [if_neg (by rw [li, lt_n (by omega) (by omega)]; exact h1), b_97i1_95]
    rw [decide_eq_false h1] at hq
    exact hq
theorem ri_4 (l : Lw) (x : Cx) (i : Nat) (mi : Int32) (W : Rw) (j : Nat) (h1 : j ≠ 4 + i) (h2 : j ≠ 10 + i) : ris l x i mi W j = W j := by
  unfold ris
  rw [upd_ne _ _ h2, upd_ne _ _ h1]
theorem hap_j (th : Bool) (fl : Int32) (W : Rw) (j : Nat) (h : j ≠ 1) : (hap th fl W).1 j = W j := by
  unfold hap
  by_cases h1 : th = true
  · rw [if_pos h1]
  · rw [if_neg h1]
    by_cases h2 : fl ≤ 0
    · rw [if_pos h2]
    · rw [if_neg h2]; exact upd_ne _ _ h
theorem sgM_j (l : Lw) (x : Cx) (th : Bool) (i j : Nat) (h0 : j ≠ 1) (h1 : j ≠ 4 + i) (h2 : j ≠ 10 + i) : ∀ m W, (sgM l x th i m W).1 j = W j
  | 0, W => rfl
  | m + 1, W => by
    rw [sgM]
    have e : (hap th (tel l x (ris l x i (nI (29 - m)) W) 1 (some i) none (nI (29 - m))) (ris l x i (nI (29 - m)) W)).1 j = W j := by rw [hap_j _ _ _ _ h0, ri_4 _ _ _ _ _ _ h1 h2]
    by_cases h : (hap th (tel l x (ris l x i (nI (29 - m)) W) 1 (some i) none (nI (29 - m))) (ris l x i (nI (29 - m)) W)).2 = true
    · simp only [if_pos h]; exact e
    · simp only [if_neg h]; rw [sgM_j l x th i j h0 h1 h2 m]; exact e
/-- what stands besides the world, for the class -/
abbrev Sts (M0 : am_M) (l : Lw) (x : Cx) : Prop := (CLw 31 M0 l) ∧ (LwOk l) ∧ (x.L ≤ 6) ∧ (x.G ≤ 8) ∧ (x.T ≤ 10) ∧ (∀ g, g < 8 → x.up g ≤ x.L)
theorem Sts.lw {M0 : am_M} {l : Lw} {x : Cx} (zz : Sts M0 l x) : CLw 31 M0 l := zz.1
theorem Sts.ok {M0 : am_M} {l : Lw} {x : Cx} (zz : Sts M0 l x) : LwOk l := zz.2.1
theorem Sts.L6 {M0 : am_M} {l : Lw} {x : Cx} (zz : Sts M0 l x) : x.L ≤ 6 := zz.2.2.1
theorem Sts.G8 {M0 : am_M} {l : Lw} {x : Cx} (zz : Sts M0 l x) : x.G ≤ 8 := zz.2.2.2.1
theorem Sts.T10 {M0 : am_M} {l : Lw} {x : Cx} (zz : Sts M0 l x) : x.T ≤ 10 := zz.2.2.2.2.1
theorem Sts.up {M0 : am_M} {l : Lw} {x : Cx} (zz : Sts M0 l x) : ∀ g, g < 8 → x.up g ≤ x.L := zz.2.2.2.2.2
theorem CLw_of {b : Nat} {M M' : am_M} {l : Lw} (h : CLw b M l) (e : ∀ a, b ≤ a → a ≤ b + 5 → M' a = M a) : CLw b M' l := by
  refine ⟨?_, ?_, ?_, ?_, ?_, ?_, ?_⟩
  · rw [e b (by omega) (by omega)]; exact h.n
  · rw [e b (by omega) (by omega)]; exact h.u
  · rw [e (b + 1) (by omega) (by omega)]; exact h.w
  · rw [e (b + 2) (by omega) (by omega)]; exact h.f
  · rw [e (b + 3) (by omega) (by omega)]; exact h.h
  · rw [e (b + 4) (by omega) (by omega)]; exact h.t
  · rw [e (b + 5) (by omega) (by omega)]; exact h.cs
theorem KC_lw {w : Nat} {M0 M : am_M} {x : Cx} {W B : Rw} {l : Lw} (h : KC w M0 M x W B) (hw : okw w) (hs : Sts M0 l x) : CLw 31 M l := CLw_of hs.lw (fun a h1 h2 => h.fr a (by unfold okw at hw; unfold chg; omega))
theorem x_tel {d nS w : Nat} {mi : Int32} {M0 : am_M} {x : Cx} {W B : Rw} {l : Lw} {M : am_M} {Q : Option Value → am_H → Prop} (h : KC 18 M0 M x W B) (hs : Sts M0 l x) (o g : Option Nat) (hw : w ≤ 2) (ha : okA w x o g) (hQ : ∀ M', KC 18 M0 M' x W B → Q (some (.int (tel l x W w o g mi))) (hp nS M')) : am_Wp (d + 2) 20 0 [.ref 31, .int (nI w), .ref 18, .int (oI o), .int (oI g), .int mi, .retAddr 0, .retAddr 0] [] (hp nS M) Q :=
  x_tells l x W hs.ok (KC_lw h (by unfold okw; omega) hs) h.cw hs.L6 hs.G8 o g hw ha (fun r r' => hQ _ (KC_row (KC_row h (by unfold okw; omega) (Or.inl rfl) r) (by unfold okw; omega) (Or.inr rfl) r'))
theorem x_ris {d nS i : Nat} {M0 : am_M} {x : Cx} {l : Lw} {W B : Rw} {mi : Int32} {M : am_M} {Q : Option Value → am_H → Prop} (h : KC 18 M0 M x W B) (hi : i < 6) (hQ : ∀ M', KC 18 M0 M' x (ris l x i mi W) B → Q none (hp nS M')) : am_Wp (d + 1) 114 0 [.ref 18, .int (nI i), .int (tel l x W 0 (some i) none mi)] [] (hp nS M) Q := by
  have hw : okw 18 := by unfold okw; omega
  have g2 : M 20 i = W (4 + i) := h.cw.he i hi
  have h1 := KC_he h hw hi (mnI 999 (W (4 + i) + tel l x W 0 (some i) none mi))
  have g3 : am_up M 20 i (mnI 999 (W (4 + i) + tel l x W 0 (some i) none mi)) 21 i = upd W (4 + i) (mnI 999 (W (4 + i) + tel l x W 0 (some i) none mi)) (10 + i) := h1.cw.tp i hi
  have g4 : am_up M 20 i (mnI 999 (W (4 + i) + tel l x W 0 (some i) none mi)) 20 i = upd W (4 + i) (mnI 999 (W (4 + i) + tel l x W 0 (some i) none mi)) (4 + i) := h1.cw.he i hi
  rw [c_114 (by first | exact in_n (by omega) (by omega) | (simp only [li, nI_add, pk_mul]; exact in_n (by omega) (by omega))) (by first | exact in_n (by omega) (by omega) | (simp only [li, nI_add, pk_mul]; exact in_n (by omega) (by omega))) (by first | exact in_n (by omega) (by omega) | (simp only [li, nI_add, pk_mul]; exact in_n (by omega) (by omega))) (by first | exact in_n (by omega) (by omega) | (simp only [li, nI_add, pk_mul]; exact in_n (by omega) (by omega))) (by first | exact in_n (by omega) (by omega) | (simp only [li, nI_add, pk_mul]; exact in_n (by omega) (by omega))), cl_n (by omega), g2, mn_lt, g3, g4, mx_lt]
  exact hQ _ (KC_tp h1 hw hi _)
theorem x_sgM {d nS i : Nat} {M0 : am_M} {x : Cx} {l : Lw} {B : Rw} {Q : Option Value → am_H → Prop} (hs : Sts M0 l x) (hi : i < x.L) : ∀ (m : Nat) (W : Rw) (M : am_M) (z6 : Value), m ≤ 30 → KC 18 M0 M x W B → (∀ M' x5 z6, KC 18 M0 M' x (sgM l x false i m W).1 B → am_Wp (d + 3) 97 108 [.ref 17, .ref 18, .int (nI i), .int 1, .int (bI (sgM l x false i m W).2), .int x5, z6] [] (hp nS M') Q) → am_Wp (d + 3) 97 13 [.ref 17, .ref 18, .int (nI i), .int 1, .int 0, .int (nI (30 - m)), z6] [] (hp nS M) Q := by
  have hL := hs.L6
  have hA : ∀ w, ¬ w = 2 → okA w x (some i) none := fun w hw => ⟨fun l hl => (by cases hl; exact hi), fun k hk => (by cases hk), fun h => absurd h hw, fun _ => ⟨i, rfl⟩⟩
  intro m
  induction m with
  | zero =>
    intro W M z6 _ h hQ
    rw [b_97_13, if_pos (by decide)]
    exact hQ M _ z6 h
  | succ m ih =>
    intro W M z6 hm h hQ
    have e30 : 30 - (m + 1) = 29 - m := by omega
    have e31 : 29 - m + 1 = 30 - m := by omega
    rw [e30, b_97_13, if_neg (by rw [li, le_n (by omega) (by omega)]; omega), b_97_20, if_neg (fun z => z rfl), b_97_25]
    refine x_tel (w := 0) (mi := nI (29 - m)) h hs (some i) none (by omega) (hA 0 (by omega)) (fun M1 h1 => ?_)
    rw [am_ans_some, b_97_40]
    refine x_ris h1 (by omega) (fun M2 h2 => ?_)
    rw [am_ans_none, b_97_43]
    refine x_tel (w := 1) (mi := nI (29 - m)) h2 hs (some i) none (by omega) (hA 1 (by omega)) (fun M3 h3 => ?_)
    rw [am_ans_some]
    refine x_hap  h3 (fun M4 h4 => ?_)
    rw [b_97_100, nI_1, e31]
    have eq : sgM l x false i (m + 1) W = if (hap false (tel l x (ris l x i (nI (29 - m)) W) 1 (some i) none (nI (29 - m))) (ris l x i (nI (29 - m)) W)).2 = true then hap false (tel l x (ris l x i (nI (29 - m)) W) 1 (some i) none (nI (29 - m))) (ris l x i (nI (29 - m)) W) else sgM l x false i m (hap false (tel l x (ris l x i (nI (29 - m)) W) 1 (some i) none (nI (29 - m))) (ris l x i (nI (29 - m)) W)).1 := rfl
    rw [eq] at hQ
    cases hf : (hap false (tel l x (ris l x i (nI (29 - m)) W) 1 (some i) none (nI (29 - m))) (ris l x i (nI (29 - m)) W)).2 with
    | true =>
      rw [if_pos hf] at hQ
      rw [hf] at hQ
      rw [b_97_13]
      by_cases h30 : 30 ≤ 30 - m
      · rw [if_pos (by rw [li, le_n (by omega) (by omega)]; exact h30)]
        exact hQ M4 _ _ h4
      · rw [if_neg (by rw [li, le_n (by omega) (by omega)]; exact h30), b_97_20, if_pos (by decide)]
        exact hQ M4 _ _ h4
    | false =>
      rw [if_neg (by rw [hf]; decide)] at hQ
      exact ih _ M4 _ (by omega) h4 hQ
theorem x_sgE {d nS i : Nat} {M0 : am_M} {x : Cx} {W B : Rw} {f : Bool} {x5 : Int32} {z6 : Value} {M : am_M} {Q : Option Value → am_H → Prop} (h : KC 18 M0 M x W B) (hi : i < 6) (ho : wrO W) (hQ : ∀ M', KC 18 M0 M' x (sgE false i f (W, B)).1 (sgE false i f (W, B)).2 → Q (some (.int (bI f))) (hp nS M')) : am_Wp (d + 1) 97 108 [.ref 17, .ref 18, .int (nI i), .int 1, .int (bI f), .int x5, z6] [] (hp nS M) Q := by
  have hw : okw 18 := by unfold okw; omega
  have g2 : M 20 i = W (4 + i) := h.cw.he i hi
  have fin : ∀ (p : Rw × Rw) M', KC 18 M0 M' x p.1 p.2 → sgE false i f (W, B) = (upd p.1 (22 + i) (mxI 0 (p.1 (22 + i) - 1)), p.2) → am_Wp (d + 1) 97 163 [.ref 17, .ref 18, .int (nI i), .int 1, .int (bI f), .int x5, z6] [] (hp nS M') Q := by
    intro p M' h' e
    have g5 : M' 23 i = p.1 (22 + i) := h'.cw.sc i hi
    rw [b_97_163 (by first | exact in_n (by omega) (by omega) | (simp only [li, nI_add, pk_mul]; exact in_n (by omega) (by omega))), cl_n (by omega), g5, c_297, mx_lt, am_ans_some, b_97_180 (by first | exact in_n (by omega) (by omega) | (simp only [li, nI_add, pk_mul]; exact in_n (by omega) (by omega))) (rokI f), cl_n (by omega)]
    rw [e] at hQ
    exact hQ _ (KC_sc h' hw hi _)
  rw [b_97_108]
  cases f with
  | true =>
    rw [if_neg (by decide), b_97_113 (by first | exact in_n (by omega) (by omega) | (simp only [li, nI_add, pk_mul]; exact in_n (by omega) (by omega))), cl_n (by omega), g2]
    refine x_nt h ho (fun M' h' => ?_)
    rw [am_ans_none, b_97_127]
    exact fin (nt false 0 (nI i) (W (4 + i)) (W, B)) M' h' rfl
  | false =>
    rw [if_pos (show bI false = 0 from rfl), b_97_130 (by first | exact in_n (by omega) (by omega) | (simp only [li, nI_add, pk_mul]; exact in_n (by omega) (by omega))), cl_n (by omega), g2]
    by_cases h5 : W (4 + i) < 500
    · rw [if_pos h5]
      refine fin (W, B) M h ?_
      unfold sgE
      simp only [if_neg (show ¬ false = true by decide), if_pos h5]
    · have h1 := KC_lo h hw hi 1
      have g2' : am_up M 22 i 1 20 i = upd W (16 + i) 1 (4 + i) := h1.cw.he i hi
      rw [if_neg h5, b_97_142 (by first | exact in_n (by omega) (by omega) | (simp only [li, nI_add, pk_mul]; exact in_n (by omega) (by omega))) (by first | exact in_n (by omega) (by omega) | (simp only [li, nI_add, pk_mul]; exact in_n (by omega) (by omega))), cl_n (by omega), g2', upd_ne _ _ (by omega)]
      refine x_nt h1 (by obtain ⟨k, hk, h150⟩ := ho; exact ⟨k, by rw [upd_ne _ _ (by omega)]; exact hk, h150⟩) (fun M' h' => ?_)
      rw [am_ans_none]
      refine fin (nt false 1 (nI i) (W (4 + i)) (upd W (16 + i) 1, B)) M' h' ?_
      unfold sgE
      simp only [if_neg (show ¬ false = true by decide), if_neg h5]
theorem x_sng {d nS i : Nat} {M0 : am_M} {x : Cx} {l : Lw} {W B : Rw} {M : am_M} {Q : Option Value → am_H → Prop} (h : KC 18 M0 M x W B) (hs : Sts M0 l x) (hi : i < x.L) (ho : wrO W) (hQ : ∀ M', KC 18 M0 M' x (sng l x false i (W, B)).1.1 (sng l x false i (W, B)).1.2 → Q (some (.int (bI (sng l x false i (W, B)).2))) (hp nS M')) : am_Wp (d + 3) 97 0 [.ref 17, .ref 18, .int (nI i), .int 1, .retAddr 0, .retAddr 0, .retAddr 0] [] (hp nS M) Q := by
  have hw : okw 18 := by unfold okw; omega
  have hL := hs.L6
  have ho' : wrO (sgM l x false i 30 (upd W (4 + i) 0)).1 := by
    obtain ⟨k, hk, h150⟩ := ho
    exact ⟨k, by rw [sgM_j _ _ _ _ _ (by omega) (by omega) (by omega), upd_ne _ _ (by omega)]; exact hk, h150⟩
  rw [b_97_0 (by first | exact in_n (by omega) (by omega) | (simp only [li, nI_add, pk_mul]; exact in_n (by omega) (by omega))), cl_n (by omega)]
  refine x_sgM hs hi 30 (upd W (4 + i) 0) _ _ (by omega) (KC_he h hw (by omega) 0) (fun M' x5 z6 h' => ?_)
  exact x_sgE h' (by omega) ho' hQ
theorem x_teli1 {d nS w : Nat} {mi : Int32} {M0 : am_M} {x : Cx} {W B : Rw} {l : Lw} {M : am_M} {Q : Option Value → am_H → Prop} (h : KC 101 M0 M x W B) (hs : Sts M0 l x) (o g : Option Nat) (hw : w ≤ 2) (ha : okA w x o g) (hQ : ∀ M', KC 101 M0 M' x W B → Q (some (.int (tel l x W w o g mi))) (hp nS M')) : am_Wp (d + 2) 20 0 [.ref 31, .int (nI w), .ref 101, .int (oI o), .int (oI g), .int mi, .retAddr 0, .retAddr 0] [] (hp nS M) Q :=
  x_tellsi1 l x W hs.ok (KC_lw h (by unfold okw; omega) hs) h.cw hs.L6 hs.G8 o g hw ha (fun r r' => hQ _ (KC_row (KC_row h (by unfold okw; omega) (Or.inl rfl) r) (by unfold okw; omega) (Or.inr rfl) r'))
theorem x_risi1 {d nS i : Nat} {M0 : am_M} {x : Cx} {l : Lw} {W B : Rw} {mi : Int32} {M : am_M} {Q : Option Value → am_H → Prop} (h : KC 101 M0 M x W B) (hi : i < 6) (hQ : ∀ M', KC 101 M0 M' x (ris l x i mi W) B → Q none (hp nS M')) : am_Wp (d + 1) 114 0 [.ref 101, .int (nI i), .int (tel l x W 0 (some i) none mi)] [] (hp nS M) Q := by
  have hw : okw 101 := by unfold okw; omega
  have g2 : M 103 i = W (4 + i) := h.cw.he i hi
  have h1 := KC_he h hw hi (mnI 999 (W (4 + i) + tel l x W 0 (some i) none mi))
  have g3 : am_up M 103 i (mnI 999 (W (4 + i) + tel l x W 0 (some i) none mi)) 104 i = upd W (4 + i) (mnI 999 (W (4 + i) + tel l x W 0 (some i) none mi)) (10 + i) := h1.cw.tp i hi
  have g4 : am_up M 103 i (mnI 999 (W (4 + i) + tel l x W 0 (some i) none mi)) 103 i = upd W (4 + i) (mnI 999 (W (4 + i) + tel l x W 0 (some i) none mi)) (4 + i) := h1.cw.he i hi
  rw [c_114i1 (by first | exact in_n (by omega) (by omega) | (simp only [li, nI_add, pk_mul]; exact in_n (by omega) (by omega))) (by first | exact in_n (by omega) (by omega) | (simp only [li, nI_add, pk_mul]; exact in_n (by omega) (by omega))) (by first | exact in_n (by omega) (by omega) | (simp only [li, nI_add, pk_mul]; exact in_n (by omega) (by omega))) (by first | exact in_n (by omega) (by omega) | (simp only [li, nI_add, pk_mul]; exact in_n (by omega) (by omega))) (by first | exact in_n (by omega) (by omega) | (simp only [li, nI_add, pk_mul]; exact in_n (by omega) (by omega))), cl_n (by omega), g2, mn_lt, g3, g4, mx_lt]
  exact hQ _ (KC_tp h1 hw hi _)
theorem x_sgMi1 {d nS i : Nat} {M0 : am_M} {x : Cx} {l : Lw} {B : Rw} {Q : Option Value → am_H → Prop} (hs : Sts M0 l x) (hi : i < x.L) : ∀ (m : Nat) (W : Rw) (M : am_M) (z6 : Value), m ≤ 30 → KC 101 M0 M x W B → (∀ M' x5 z6, KC 101 M0 M' x (sgM l x true i m W).1 B → am_Wp (d + 3) 97 108 [.ref 17, .ref 101, .int (nI i), .int 0, .int (bI (sgM l x true i m W).2), .int x5, z6] [] (hp nS M') Q) → am_Wp (d + 3) 97 13 [.ref 17, .ref 101, .int (nI i), .int 0, .int 0, .int (nI (30 - m)), z6] [] (hp nS M) Q := by
  have hL := hs.L6
  have hA : ∀ w, ¬ w = 2 → okA w x (some i) none := fun w hw => ⟨fun l hl => (by cases hl; exact hi), fun k hk => (by cases hk), fun h => absurd h hw, fun _ => ⟨i, rfl⟩⟩
  intro m
  induction m with
  | zero =>
    intro W M z6 _ h hQ
    rw [b_97i1_13, if_pos (by decide)]
    exact hQ M _ z6 h
  | succ m ih =>
    intro W M z6 hm h hQ
    have e30 : 30 - (m + 1) = 29 - m := by omega
    have e31 : 29 - m + 1 = 30 - m := by omega
    rw [e30, b_97i1_13, if_neg (by rw [li, le_n (by omega) (by omega)]; omega), b_97i1_20, if_neg (fun z => z rfl), b_97i1_25]
    refine x_teli1 (w := 0) (mi := nI (29 - m)) h hs (some i) none (by omega) (hA 0 (by omega)) (fun M1 h1 => ?_)
    rw [am_ans_some, b_97i1_40]
    refine x_risi1 h1 (by omega) (fun M2 h2 => ?_)
    rw [am_ans_none, b_97i1_43]
    refine x_teli1 (w := 1) (mi := nI (29 - m)) h2 hs (some i) none (by omega) (hA 1 (by omega)) (fun M3 h3 => ?_)
    rw [am_ans_some]
    refine x_hapi1 (tel_1 _ _ _ _ _ _) h3 (fun M4 h4 => ?_)
    rw [b_97i1_100, nI_1, e31]
    have eq : sgM l x true i (m + 1) W = if (hap true (tel l x (ris l x i (nI (29 - m)) W) 1 (some i) none (nI (29 - m))) (ris l x i (nI (29 - m)) W)).2 = true then hap true (tel l x (ris l x i (nI (29 - m)) W) 1 (some i) none (nI (29 - m))) (ris l x i (nI (29 - m)) W) else sgM l x true i m (hap true (tel l x (ris l x i (nI (29 - m)) W) 1 (some i) none (nI (29 - m))) (ris l x i (nI (29 - m)) W)).1 := rfl
    rw [eq] at hQ
    cases hf : (hap true (tel l x (ris l x i (nI (29 - m)) W) 1 (some i) none (nI (29 - m))) (ris l x i (nI (29 - m)) W)).2 with
    | true =>
      rw [if_pos hf] at hQ
      rw [hf] at hQ
      rw [b_97i1_13]
      by_cases h30 : 30 ≤ 30 - m
      · rw [if_pos (by rw [li, le_n (by omega) (by omega)]; exact h30)]
        exact hQ M4 _ _ h4
      · rw [if_neg (by rw [li, le_n (by omega) (by omega)]; exact h30), b_97i1_20, if_pos (by decide)]
        exact hQ M4 _ _ h4
    | false =>
      rw [if_neg (by rw [hf]; decide)] at hQ
      exact ih _ M4 _ (by omega) h4 hQ
theorem x_sgEi1 {d nS i : Nat} {M0 : am_M} {x : Cx} {W B : Rw} {f : Bool} {x5 : Int32} {z6 : Value} {M : am_M} {Q : Option Value → am_H → Prop} (h : KC 101 M0 M x W B) (hi : i < 6) (ho : wrO W) (hQ : ∀ M', KC 101 M0 M' x (sgE true i f (W, B)).1 (sgE true i f (W, B)).2 → Q (some (.int (bI f))) (hp nS M')) : am_Wp (d + 1) 97 108 [.ref 17, .ref 101, .int (nI i), .int 0, .int (bI f), .int x5, z6] [] (hp nS M) Q := by
  have hw : okw 101 := by unfold okw; omega
  have g2 : M 103 i = W (4 + i) := h.cw.he i hi
  have fin : ∀ (p : Rw × Rw) M', KC 101 M0 M' x p.1 p.2 → sgE true i f (W, B) = (upd p.1 (22 + i) (mxI 0 (p.1 (22 + i) - 1)), p.2) → am_Wp (d + 1) 97 163 [.ref 17, .ref 101, .int (nI i), .int 0, .int (bI f), .int x5, z6] [] (hp nS M') Q := by
    intro p M' h' e
    have g5 : M' 106 i = p.1 (22 + i) := h'.cw.sc i hi
    rw [b_97i1_163 (by first | exact in_n (by omega) (by omega) | (simp only [li, nI_add, pk_mul]; exact in_n (by omega) (by omega))), cl_n (by omega), g5, c_297, mx_lt, am_ans_some, b_97i1_180 (by first | exact in_n (by omega) (by omega) | (simp only [li, nI_add, pk_mul]; exact in_n (by omega) (by omega))) (rokI f), cl_n (by omega)]
    rw [e] at hQ
    exact hQ _ (KC_sc h' hw hi _)
  rw [b_97i1_108]
  cases f with
  | true =>
    rw [if_neg (by decide), b_97i1_113 (by first | exact in_n (by omega) (by omega) | (simp only [li, nI_add, pk_mul]; exact in_n (by omega) (by omega))), cl_n (by omega), g2]
    refine x_nti1 h ho (fun M' h' => ?_)
    rw [am_ans_none, b_97i1_127]
    exact fin (nt true 0 (nI i) (W (4 + i)) (W, B)) M' h' rfl
  | false =>
    rw [if_pos (show bI false = 0 from rfl), b_97i1_130 (by first | exact in_n (by omega) (by omega) | (simp only [li, nI_add, pk_mul]; exact in_n (by omega) (by omega))), cl_n (by omega), g2]
    by_cases h5 : W (4 + i) < 500
    · rw [if_pos h5]
      refine fin (W, B) M h ?_
      unfold sgE
      simp only [if_neg (show ¬ false = true by decide), if_pos h5]
    · have h1 := KC_lo h hw hi 1
      have g2' : am_up M 105 i 1 103 i = upd W (16 + i) 1 (4 + i) := h1.cw.he i hi
      rw [if_neg h5, b_97i1_142 (by first | exact in_n (by omega) (by omega) | (simp only [li, nI_add, pk_mul]; exact in_n (by omega) (by omega))) (by first | exact in_n (by omega) (by omega) | (simp only [li, nI_add, pk_mul]; exact in_n (by omega) (by omega))), cl_n (by omega), g2', upd_ne _ _ (by omega)]
      refine x_nti1 h1 (by obtain ⟨k, hk, h150⟩ := ho; exact ⟨k, by rw [upd_ne _ _ (by omega)]; exact hk, h150⟩) (fun M' h' => ?_)
      rw [am_ans_none]
      refine fin (nt true 1 (nI i) (W (4 + i)) (upd W (16 + i) 1, B)) M' h' ?_
      unfold sgE
      simp only [if_neg (show ¬ false = true by decide), if_neg h5]
theorem x_sngi1 {d nS i : Nat} {M0 : am_M} {x : Cx} {l : Lw} {W B : Rw} {M : am_M} {Q : Option Value → am_H → Prop} (h : KC 101 M0 M x W B) (hs : Sts M0 l x) (hi : i < x.L) (ho : wrO W) (hQ : ∀ M', KC 101 M0 M' x (sng l x true i (W, B)).1.1 (sng l x true i (W, B)).1.2 → Q (some (.int (bI (sng l x true i (W, B)).2))) (hp nS M')) : am_Wp (d + 3) 97 0 [.ref 17, .ref 101, .int (nI i), .int 0, .retAddr 0, .retAddr 0, .retAddr 0] [] (hp nS M) Q := by
  have hw : okw 101 := by unfold okw; omega
  have hL := hs.L6
  have ho' : wrO (sgM l x true i 30 (upd W (4 + i) 0)).1 := by
    obtain ⟨k, hk, h150⟩ := ho
    exact ⟨k, by rw [sgM_j _ _ _ _ _ (by omega) (by omega) (by omega), upd_ne _ _ (by omega)]; exact hk, h150⟩
  rw [b_97i1_0 (by first | exact in_n (by omega) (by omega) | (simp only [li, nI_add, pk_mul]; exact in_n (by omega) (by omega))), cl_n (by omega)]
  refine x_sgMi1 hs hi 30 (upd W (4 + i) 0) _ _ (by omega) (KC_he h hw (by omega) 0) (fun M' x5 z6 h' => ?_)
  exact x_sgEi1 h' (by omega) ho' hQ
end
