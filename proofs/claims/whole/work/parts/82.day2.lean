section
/-! WHAT STANDS IN A WORLD AT ALL TIMES -/
abbrev WOk (x : Cx) (P : Nat) (W : Rw) : Prop := (∀ k, k < 6 → W (16 + k) = 0 ∨ W (16 + k) = 1) ∧ (∀ k, k < 10 → W (46 + k) = 0 ∨ W (46 + k) = 1) ∧ (∀ k, k < x.G → ∃ v, W (28 + k) = nI v ∧ 1 ≤ v ∧ v ≤ 999) ∧ (∀ k, k < 80 → ∃ v, W (56 + k) = nI v ∧ v ≤ 99) ∧ (∀ k, k < 10 → ∃ v, W (36 + k) = nI v ∧ v ≤ P) ∧ (wrO W)
theorem WOk.lo {x : Cx} {P : Nat} {W : Rw} (zz : WOk x P W) : ∀ k, k < 6 → W (16 + k) = 0 ∨ W (16 + k) = 1 := zz.1
theorem WOk.ru {x : Cx} {P : Nat} {W : Rw} (zz : WOk x P W) : ∀ k, k < 10 → W (46 + k) = 0 ∨ W (46 + k) = 1 := zz.2.1
theorem WOk.pr {x : Cx} {P : Nat} {W : Rw} (zz : WOk x P W) : ∀ k, k < x.G → ∃ v, W (28 + k) = nI v ∧ 1 ≤ v ∧ v ≤ 999 := zz.2.2.1
theorem WOk.st {x : Cx} {P : Nat} {W : Rw} (zz : WOk x P W) : ∀ k, k < 80 → ∃ v, W (56 + k) = nI v ∧ v ≤ 99 := zz.2.2.2.1
theorem WOk.pu {x : Cx} {P : Nat} {W : Rw} (zz : WOk x P W) : ∀ k, k < 10 → ∃ v, W (36 + k) = nI v ∧ v ≤ P := zz.2.2.2.2.1
theorem WOk.wr {x : Cx} {P : Nat} {W : Rw} (zz : WOk x P W) : wrO W := zz.2.2.2.2.2
theorem WOk_mono {x : Cx} {P P' : Nat} {W : Rw} (h : WOk x P W) (hP : P ≤ P') : WOk x P' W := ⟨h.lo, h.ru, h.pr, h.st, fun k hk => by obtain ⟨v, h1, h2⟩ := h.pu k hk; exact ⟨v, h1, by omega⟩, h.wr⟩
theorem WOk_oth {x : Cx} {P : Nat} {W : Rw} (h : WOk x P W) {j : Nat} (v : Int32) (hj : j ≠ 2 ∧ (j < 16 ∨ (22 ≤ j ∧ j < 28))) (hG : x.G ≤ 8) : WOk x P (upd W j v) := by
  refine ⟨fun k hk => ?_, fun k hk => ?_, fun k hk => ?_, fun k hk => ?_, fun k hk => ?_, ?_⟩
  · rw [upd_ne _ _ (by omega)]; exact h.lo k hk
  · rw [upd_ne _ _ (by omega)]; exact h.ru k hk
  · rw [upd_ne _ _ (by omega)]; exact h.pr k hk
  · rw [upd_ne _ _ (by omega)]; exact h.st k hk
  · rw [upd_ne _ _ (by omega)]; exact h.pu k hk
  · obtain ⟨k, h1, h2⟩ := h.wr; exact ⟨k, by rw [upd_ne _ _ (by omega)]; exact h1, h2⟩
theorem WOk_lo {x : Cx} {P : Nat} {W : Rw} (h : WOk x P W) {i : Nat} {v : Int32} (hi : i < 6) (hv : v = 0 ∨ v = 1) (hG : x.G ≤ 8) : WOk x P (upd W (16 + i) v) := by
  refine ⟨fun k hk => ?_, fun k hk => ?_, fun k hk => ?_, fun k hk => ?_, fun k hk => ?_, ?_⟩
  · rw [upd_at]
    by_cases c : 16 + k = 16 + i
    · rw [if_pos c]; exact hv
    · rw [if_neg c]; exact h.lo k hk
  · rw [upd_ne _ _ (by omega)]; exact h.ru k hk
  · rw [upd_ne _ _ (by omega)]; exact h.pr k hk
  · rw [upd_ne _ _ (by omega)]; exact h.st k hk
  · rw [upd_ne _ _ (by omega)]; exact h.pu k hk
  · obtain ⟨k, h1, h2⟩ := h.wr; exact ⟨k, by rw [upd_ne _ _ (by omega)]; exact h1, h2⟩
theorem WOk_ru {x : Cx} {P : Nat} {W : Rw} (h : WOk x P W) {i : Nat} {v : Int32} (hi : i < 10) (hv : v = 0 ∨ v = 1) (hG : x.G ≤ 8) : WOk x P (upd W (46 + i) v) := by
  refine ⟨fun k hk => ?_, fun k hk => ?_, fun k hk => ?_, fun k hk => ?_, fun k hk => ?_, ?_⟩
  · rw [upd_ne _ _ (by omega)]; exact h.lo k hk
  · rw [upd_at]
    by_cases c : 46 + k = 46 + i
    · rw [if_pos c]; exact hv
    · rw [if_neg c]; exact h.ru k hk
  · rw [upd_ne _ _ (by omega)]; exact h.pr k hk
  · rw [upd_ne _ _ (by omega)]; exact h.st k hk
  · rw [upd_ne _ _ (by omega)]; exact h.pu k hk
  · obtain ⟨k, h1, h2⟩ := h.wr; exact ⟨k, by rw [upd_ne _ _ (by omega)]; exact h1, h2⟩
theorem WOk_pr {x : Cx} {P : Nat} {W : Rw} (h : WOk x P W) {i : Nat} {v : Int32} (hi : i < 8) (hv : ∃ n, v = nI n ∧ 1 ≤ n ∧ n ≤ 999) (hG : x.G ≤ 8) : WOk x P (upd W (28 + i) v) := by
  refine ⟨fun k hk => ?_, fun k hk => ?_, fun k hk => ?_, fun k hk => ?_, fun k hk => ?_, ?_⟩
  · rw [upd_ne _ _ (by omega)]; exact h.lo k hk
  · rw [upd_ne _ _ (by omega)]; exact h.ru k hk
  · rw [upd_at]
    by_cases c : 28 + k = 28 + i
    · rw [if_pos c]; exact hv
    · rw [if_neg c]; exact h.pr k hk
  · rw [upd_ne _ _ (by omega)]; exact h.st k hk
  · rw [upd_ne _ _ (by omega)]; exact h.pu k hk
  · obtain ⟨k, h1, h2⟩ := h.wr; exact ⟨k, by rw [upd_ne _ _ (by omega)]; exact h1, h2⟩
theorem WOk_st {x : Cx} {P : Nat} {W : Rw} (h : WOk x P W) {i : Nat} {v : Int32} (hi : i < 80) (hv : ∃ n, v = nI n ∧ n ≤ 99) (hG : x.G ≤ 8) : WOk x P (upd W (56 + i) v) := by
  refine ⟨fun k hk => ?_, fun k hk => ?_, fun k hk => ?_, fun k hk => ?_, fun k hk => ?_, ?_⟩
  · rw [upd_ne _ _ (by omega)]; exact h.lo k hk
  · rw [upd_ne _ _ (by omega)]; exact h.ru k hk
  · rw [upd_ne _ _ (by omega)]; exact h.pr k hk
  · rw [upd_at]
    by_cases c : 56 + k = 56 + i
    · rw [if_pos c]; exact hv
    · rw [if_neg c]; exact h.st k hk
  · rw [upd_ne _ _ (by omega)]; exact h.pu k hk
  · obtain ⟨k, h1, h2⟩ := h.wr; exact ⟨k, by rw [upd_ne _ _ (by omega)]; exact h1, h2⟩
theorem WOk_pu {x : Cx} {P : Nat} {W : Rw} (h : WOk x P W) {i : Nat} {v : Int32} (hi : i < 10) (hv : ∃ n, v = nI n ∧ n ≤ P) (hG : x.G ≤ 8) : WOk x P (upd W (36 + i) v) := by
  refine ⟨fun k hk => ?_, fun k hk => ?_, fun k hk => ?_, fun k hk => ?_, fun k hk => ?_, ?_⟩
  · rw [upd_ne _ _ (by omega)]; exact h.lo k hk
  · rw [upd_ne _ _ (by omega)]; exact h.ru k hk
  · rw [upd_ne _ _ (by omega)]; exact h.pr k hk
  · rw [upd_ne _ _ (by omega)]; exact h.st k hk
  · rw [upd_at]
    by_cases c : 36 + k = 36 + i
    · rw [if_pos c]; exact hv
    · rw [if_neg c]; exact h.pu k hk
  · obtain ⟨k, h1, h2⟩ := h.wr; exact ⟨k, by rw [upd_ne _ _ (by omega)]; exact h1, h2⟩
theorem WOk_nt {x : Cx} {P : Nat} {W B : Rw} (h : WOk x P W) (th : Bool) (wh wo mu : Int32) (hG : x.G ≤ 8) : WOk x P (nt th wh wo mu (W, B)).1 := by
  unfold nt
  by_cases c : th = true ∨ (W, B).1 2 = 150
  · rw [if_pos c]; exact h
  · rw [if_neg c]
    show WOk x P (upd W 2 (W 2 + 1))
    refine ⟨fun k hk => ?_, fun k hk => ?_, fun k hk => ?_, fun k hk => ?_, fun k hk => ?_, ?_⟩
    · rw [upd_ne _ _ (by omega)]; exact h.lo k hk
    · rw [upd_ne _ _ (by omega)]; exact h.ru k hk
    · rw [upd_ne _ _ (by omega)]; exact h.pr k hk
    · rw [upd_ne _ _ (by omega)]; exact h.st k hk
    · rw [upd_ne _ _ (by omega)]; exact h.pu k hk
    · obtain ⟨k, h1, h2⟩ := h.wr
      refine ⟨k + 1, by rw [upd_same, h1]; exact nI_add k 1, ?_⟩
      have : ¬ k = 150 := fun z => c (Or.inr (by show W 2 = 150; rw [h1, z]; rfl))
      omega
theorem hap_ok {x : Cx} {P : Nat} {W : Rw} (h : WOk x P W) (th : Bool) (fl : Int32) (hG : x.G ≤ 8) : WOk x P (hap th fl W).1 := by
  unfold hap
  by_cases c : th = true
  · rw [if_pos c]; exact h
  · rw [if_neg c]
    by_cases c2 : fl ≤ 0
    · rw [if_pos c2]; exact h
    · rw [if_neg c2]; exact WOk_oth h _ (by omega) hG
theorem ris_ok {x : Cx} {P : Nat} {W : Rw} {l : Lw} {i : Nat} (h : WOk x P W) (hi : i < 6) (mi : Int32) (hG : x.G ≤ 8) : WOk x P (ris l x i mi W) := WOk_oth (WOk_oth h _ (by omega) hG) _ (by omega) hG
theorem sgM_ok {x : Cx} {P : Nat} {l : Lw} {i : Nat} (hi : i < 6) (th : Bool) (hG : x.G ≤ 8) : ∀ (m : Nat) {W : Rw}, WOk x P W → WOk x P (sgM l x th i m W).1
  | 0, W, h => h
  | m + 1, W, h => by
    rw [sgM]
    have e := hap_ok (ris_ok (l := l) h hi (nI (29 - m)) hG) th (tel l x (ris l x i (nI (29 - m)) W) 1 (some i) none (nI (29 - m))) hG
    by_cases c : (hap th (tel l x (ris l x i (nI (29 - m)) W) 1 (some i) none (nI (29 - m))) (ris l x i (nI (29 - m)) W)).2 = true
    · simp only [if_pos c]; exact e
    · simp only [if_neg c]; exact sgM_ok hi th hG m e
theorem sgE_ok {x : Cx} {P : Nat} {W B : Rw} {i : Nat} (h : WOk x P W) (hi : i < 6) (th f : Bool) (hG : x.G ≤ 8) : WOk x P (sgE th i f (W, B)).1 := by
  unfold sgE
  refine WOk_oth ?_ _ (by omega) hG
  by_cases c : f = true
  · simp only [if_pos c]; exact WOk_nt h _ _ _ _ hG
  · simp only [if_neg c]
    by_cases c2 : W (4 + i) < 500
    · simp only [if_pos c2]; exact h
    · simp only [if_neg c2]; exact WOk_nt (WOk_lo h hi (Or.inr rfl) hG) _ _ _ _ hG
theorem sng_ok {x : Cx} {P : Nat} {l : Lw} {W B : Rw} {i : Nat} (h : WOk x P W) (hi : i < 6) (th : Bool) (hG : x.G ≤ 8) : WOk x P (sng l x th i (W, B)).1.1 := sgE_ok (sgM_ok hi th hG 30 (WOk_oth h _ (by omega) hG)) hi th _ hG
/-! dawns -/
abbrev Dn := (Nat) × (Nat → Nat) × (Nat → Nat) × (Nat → Nat) × (Nat → Nat)
def Dn.n (zz : Dn) : Nat := zz.1
def Dn.day (zz : Dn) : Nat → Nat := zz.2.1
def Dn.kd (zz : Dn) : Nat → Nat := zz.2.2.1
def Dn.wo (zz : Dn) : Nat → Nat := zz.2.2.2.1
def Dn.mn (zz : Dn) : Nat → Nat := zz.2.2.2.2
abbrev DnOk (x : Cx) (d : Dn) : Prop := (d.n ≤ 16) ∧ (∀ j, j < d.n → d.kd j ≤ 3) ∧ (∀ j, j < d.n → d.kd j ≠ 3 → d.wo j < x.L) ∧ (∀ j, j < d.n → d.wo j ≤ 9) ∧ (∀ j, j < d.n → d.mn j ≤ 9) ∧ (∀ j, j < d.n → d.day j ≤ 999)
theorem DnOk.n16 {x : Cx} {d : Dn} (zz : DnOk x d) : d.n ≤ 16 := zz.1
theorem DnOk.kd {x : Cx} {d : Dn} (zz : DnOk x d) : ∀ j, j < d.n → d.kd j ≤ 3 := zz.2.1
theorem DnOk.wo {x : Cx} {d : Dn} (zz : DnOk x d) : ∀ j, j < d.n → d.kd j ≠ 3 → d.wo j < x.L := zz.2.2.1
theorem DnOk.w9 {x : Cx} {d : Dn} (zz : DnOk x d) : ∀ j, j < d.n → d.wo j ≤ 9 := zz.2.2.2.1
theorem DnOk.mn {x : Cx} {d : Dn} (zz : DnOk x d) : ∀ j, j < d.n → d.mn j ≤ 9 := zz.2.2.2.2.1
theorem DnOk.da {x : Cx} {d : Dn} (zz : DnOk x d) : ∀ j, j < d.n → d.day j ≤ 999 := zz.2.2.2.2.2
def kdC (k : Nat) : Nat := if k = 3 then 11 else 17 + k
abbrev CDn (b : Nat) (M : am_M) (d : Dn) : Prop := (M b 1 = nI d.n) ∧ (∀ j, j < d.n → M (b + 1) (5 * j) = nI (d.day j)) ∧ (∀ j, j < d.n → M (b + 1) (5 * j + 1) = nI (kdC (d.kd j))) ∧ (∀ j, j < d.n → d.kd j ≠ 3 → M (b + 1) (5 * j + 2) = nI (d.wo j)) ∧ (∀ j, j < d.n → M (b + 1) (5 * j + 3) = nI (if d.kd j = 3 then d.wo j else d.mn j))
theorem CDn.n {b : Nat} {M : am_M} {d : Dn} (zz : CDn b M d) : M b 1 = nI d.n := zz.1
theorem CDn.day {b : Nat} {M : am_M} {d : Dn} (zz : CDn b M d) : ∀ j, j < d.n → M (b + 1) (5 * j) = nI (d.day j) := zz.2.1
theorem CDn.kd {b : Nat} {M : am_M} {d : Dn} (zz : CDn b M d) : ∀ j, j < d.n → M (b + 1) (5 * j + 1) = nI (kdC (d.kd j)) := zz.2.2.1
theorem CDn.wo {b : Nat} {M : am_M} {d : Dn} (zz : CDn b M d) : ∀ j, j < d.n → d.kd j ≠ 3 → M (b + 1) (5 * j + 2) = nI (d.wo j) := zz.2.2.2.1
theorem CDn.mn {b : Nat} {M : am_M} {d : Dn} (zz : CDn b M d) : ∀ j, j < d.n → M (b + 1) (5 * j + 3) = nI (if d.kd j = 3 then d.wo j else d.mn j) := zz.2.2.2.2
def dwD (k wo mn : Nat) (W : Rw) : Rw := if k = 0 then upd W (22 + wo) (mnI 9 (W (22 + wo) + nI mn)) else if k = 1 then upd W (22 + wo) 0 else if k = 3 then upd W 3 (nI wo) else if W (16 + wo) = 1 then upd (upd W (16 + wo) 0) (4 + wo) 0 else W
def dwS (d : Dn) (j : Nat) (W : Rw) : Rw := if nI (d.day j) = W 0 then dwD (d.kd j) (d.wo j) (d.mn j) W else W
theorem dwS_ok {x : Cx} {P : Nat} {W : Rw} {d : Dn} (h : WOk x P W) (hd : DnOk x d) {j : Nat} (hj : j < d.n) (hL : x.L ≤ 6) (hG : x.G ≤ 8) : WOk x P (dwS d j W) := by
  have h3 := hd.kd j hj
  have hw := hd.wo j hj
  unfold dwS
  by_cases c : nI (d.day j) = W 0
  · rw [if_pos c]
    unfold dwD
    by_cases c0 : d.kd j = 0
    · rw [if_pos c0]; exact WOk_oth h _ (by omega) hG
    · rw [if_neg c0]
      by_cases c1 : d.kd j = 1
      · rw [if_pos c1]; exact WOk_oth h _ (by omega) hG
      · rw [if_neg c1]
        by_cases c3 : d.kd j = 3
        · rw [if_pos c3]; exact WOk_oth h _ (by omega) hG
        · rw [if_neg c3]
          by_cases cl : W (16 + d.wo j) = 1
          · rw [if_pos cl]; exact WOk_oth (WOk_lo h (by omega) (Or.inl rfl) hG) _ (by omega) hG
          · rw [if_neg cl]; exact h
  · rw [if_neg c]; exact h
theorem mul5 (a b : Nat) : nI a * 5 + nI b = nI (5 * a + b) := by
  have : nI a * 5 = nI (5 * a) := by rw [Nat.mul_comm]; exact pk_mul a 5
  rw [this, nI_add]
theorem CDn_of {b : Nat} {M M' : am_M} {d : Dn} (h : CDn b M d) (e1 : M' b = M b) (e2 : M' (b + 1) = M (b + 1)) : CDn b M' d := by
  refine ⟨?_, ?_, ?_, ?_, ?_⟩
  · rw [e1]; exact h.n
  · rw [e2]; exact h.day
  · rw [e2]; exact h.kd
  · rw [e2]; exact h.wo
  · rw [e2]; exact h.mn
theorem x_boys {d nS : Nat} {M0 : am_M} {x : Cx} {W B : Rw} {dn : Dn} {P : Nat} {M : am_M} {Q : Option Value → am_H → Prop} (h : KC 18 M0 M x W B) (hD : CDn 39 M0 dn) (hk : DnOk x dn) (hL : x.L ≤ 6) (hG : x.G ≤ 8) (hO : WOk x P W) (hQ : ∀ M', KC 18 M0 M' x (itr (dwS dn) W dn.n) B → WOk x P (itr (dwS dn) W dn.n) → Q none (hp nS M')) : am_Wp (d + 1) 96 0 [.ref 17, .ref 18, .retAddr 0, .retAddr 0, .retAddr 0, .retAddr 0] [] (hp nS M) Q := by
  have hw : okw 18 := by unfold okw; omega
  have h16 := hk.n16
  have key : ∀ m j M z3 z4 z5, j + m = dn.n → KC 18 M0 M x (itr (dwS dn) W j) B → WOk x P (itr (dwS dn) W j) → am_Wp (d + 1) 96 2 [.ref 17, .ref 18, .int (nI j), z3, z4, z5] [] (hp nS M) Q := by
    intro m
    induction m with
    | zero =>
      intro j M z3 z4 z5 hj h hO
      have : j = dn.n := by omega
      subst this
      have g39 : M 39 1 = nI dn.n := by rw [h.fr 39 (by unfold chg; omega)]; exact hD.n
      rw [b_96_2, g39, if_pos (Int32.le_refl _), b_96_151]
      exact hQ M h hO
    | succ m ih =>
      intro j M z3 z4 z5 hj h hO
      have hjn : j < dn.n := by omega
      have g39 : M 39 1 = nI dn.n := by rw [h.fr 39 (by unfold chg; omega)]; exact hD.n
      have e40 : M 40 = M0 40 := h.fr 40 (by unfold chg; omega)
      have c0 : M 40 (5 * j) = nI (dn.day j) := by rw [e40]; exact hD.day j hjn
      have c1 : M 40 (5 * j + 1) = nI (kdC (dn.kd j)) := by rw [e40]; exact hD.kd j hjn
      have c3 : M 40 (5 * j + 3) = nI (if dn.kd j = 3 then dn.wo j else dn.mn j) := by rw [e40]; exact hD.mn j hjn
      have h3 := hk.kd j hjn
      have hmn := hk.mn j hjn
      have hw9 := hk.w9 j hjn
      have m0 : nI j * 5 + 0 = nI (5 * j) := mul5 j 0
      have m1 : nI j * 5 + 1 = nI (5 * j + 1) := mul5 j 1
      have m2 : nI j * 5 + 2 = nI (5 * j + 2) := mul5 j 2
      have m3 : nI j * 5 + 3 = nI (5 * j + 3) := mul5 j 3
      have nx : ∀ M' x3 x4 x5, KC 18 M0 M' x (dwS dn j (itr (dwS dn) W j)) B → am_Wp (d + 1) 96 145 [.ref 17, .ref 18, .int (nI j), .int x3, .int x4, .int x5] [] (hp nS M') Q := by
        intro M' x3 x4 x5 h'
        rw [b_96_145, nI_1]
        exact ih (j + 1) M' _ _ _ (by omega) h' (dwS_ok hO hk hjn hL hG)
      rw [b_96_2, g39, if_neg (by rw [le_n (by omega) (by omega)]; omega), b_96_13, c_33i1 (by rw [m1]; exact in_n (by omega) (by omega)), m1, cl_n (by omega), c1, am_ans_some, b_96_22, c_33i1 (by rw [m2]; exact in_n (by omega) (by omega)), m2, cl_n (by omega), am_ans_some, b_96_32, c_33i1 (by rw [m3]; exact in_n (by omega) (by omega)), m3, cl_n (by omega), c3, am_ans_some, b_96_43, c_33i1 (by rw [m0]; exact in_n (by omega) (by omega)), m0, cl_n (by omega), c0, am_ans_some, b_96_54, h.cw.da]
      by_cases cd : nI (dn.day j) = itr (dwS dn) W j 0
      · have ed : dwS dn j (itr (dwS dn) W j) = dwD (dn.kd j) (dn.wo j) (dn.mn j) (itr (dwS dn) W j) := if_pos cd
        rw [ed] at nx
        rw [if_pos cd, b_96_64]
        have hkd : dn.kd j = 0 ∨ dn.kd j = 1 ∨ dn.kd j = 2 ∨ dn.kd j = 3 := by omega
        rcases hkd with k | k | k | k
        · have hwo := hk.wo j hjn (by omega)
          have c2 : M 40 (5 * j + 2) = nI (dn.wo j) := by rw [e40]; exact hD.wo j hjn (by omega)
          have g5 : M 23 (dn.wo j) = itr (dwS dn) W j (22 + dn.wo j) := h.cw.sc _ (by omega)
          rw [k] at nx ⊢
          rw [if_pos (show ¬ nI (kdC 0) = 11 by decide), b_96_79, c2, c_104, am_ans_some, b_96_85, ite1_t (hasI h.cw.fL hwo (by omega)), b_96_91, if_neg (show ¬ ¬ nI (kdC 0) = 17 by decide), b_96_97 (by first | exact in_n (by omega) (by omega) | (simp only [li, nI_add, pk_mul]; exact in_n (by omega) (by omega))), cl_n (by omega), g5, c_296, mn_lt, am_ans_some, b_96_118 (by first | exact in_n (by omega) (by omega) | (simp only [li, nI_add, pk_mul]; exact in_n (by omega) (by omega))), cl_n (by omega)]
          exact nx _ _ _ _ (KC_sc h hw (by omega) _)
        · have hwo := hk.wo j hjn (by omega)
          have c2 : M 40 (5 * j + 2) = nI (dn.wo j) := by rw [e40]; exact hD.wo j hjn (by omega)
          rw [k] at nx ⊢
          rw [if_pos (show ¬ nI (kdC 1) = 11 by decide), b_96_79, c2, c_104, am_ans_some, b_96_85, ite1_t (hasI h.cw.fL hwo (by omega)), b_96_91, if_pos (show ¬ nI (kdC 1) = 17 by decide), b_96_122, if_neg (show ¬ ¬ nI (kdC 1) = 18 by decide), b_96_128 (by first | exact in_n (by omega) (by omega) | (simp only [li, nI_add, pk_mul]; exact in_n (by omega) (by omega))), cl_n (by omega)]
          exact nx _ _ _ _ (KC_sc h hw (by omega) _)
        · have hwo := hk.wo j hjn (by omega)
          have c2 : M 40 (5 * j + 2) = nI (dn.wo j) := by rw [e40]; exact hD.wo j hjn (by omega)
          have g4 : M 22 (dn.wo j) = itr (dwS dn) W j (16 + dn.wo j) := h.cw.lo _ (by omega)
          rw [k] at nx ⊢
          rw [if_pos (show ¬ nI (kdC 2) = 11 by decide), b_96_79, c2, c_104, am_ans_some, b_96_85, ite1_t (hasI h.cw.fL hwo (by omega)), b_96_91, if_pos (show ¬ nI (kdC 2) = 17 by decide), b_96_122, if_pos (show ¬ nI (kdC 2) = 18 by decide), b_96_139, c_113 (by first | exact in_n (by omega) (by omega) | (simp only [li, nI_add, pk_mul]; exact in_n (by omega) (by omega))) (fun _ => (by first | exact in_n (by omega) (by omega) | (simp only [li, nI_add, pk_mul]; exact in_n (by omega) (by omega)))) (fun _ => (by first | exact in_n (by omega) (by omega) | (simp only [li, nI_add, pk_mul]; exact in_n (by omega) (by omega)))), cl_n (by omega), g4]
          by_cases cl : itr (dwS dn) W j (16 + dn.wo j) = 1
          · have e2 : dwD 2 (dn.wo j) (dn.mn j) (itr (dwS dn) W j) = upd (upd (itr (dwS dn) W j) (16 + dn.wo j) 0) (4 + dn.wo j) 0 := if_pos cl
            rw [e2] at nx
            rw [if_neg (fun z => z cl), am_ans_none]
            exact nx _ _ _ _ (KC_he (KC_lo h hw (by omega) 0) hw (by omega) 0)
          · have e2 : dwD 2 (dn.wo j) (dn.mn j) (itr (dwS dn) W j) = itr (dwS dn) W j := if_neg cl
            rw [e2] at nx
            rw [if_pos cl, am_ans_none]
            exact nx _ _ _ _ h
        · rw [k] at nx ⊢
          rw [if_neg (show ¬ ¬ nI (kdC 3) = 11 by decide), b_96_70, if_pos rfl]
          exact nx _ _ _ _ (KC_wi h hw _)
      · have ed : dwS dn j (itr (dwS dn) W j) = itr (dwS dn) W j := if_neg cd
        rw [ed] at nx
        rw [if_neg cd, b_96_61]
        exact nx _ _ _ _ h
  rw [b_96_0]
  exact key dn.n 0 M _ _ _ (by omega) h hO
theorem x_boysi1 {d nS : Nat} {M0 : am_M} {x : Cx} {W B : Rw} {dn : Dn} {P : Nat} {M : am_M} {Q : Option Value → am_H → Prop} (h : KC 101 M0 M x W B) (hD : CDn 39 M0 dn) (hk : DnOk x dn) (hL : x.L ≤ 6) (hG : x.G ≤ 8) (hO : WOk x P W) (hQ : ∀ M', KC 101 M0 M' x (itr (dwS dn) W dn.n) B → WOk x P (itr (dwS dn) W dn.n) → Q none (hp nS M')) : am_Wp (d + 1) 96 0 [.ref 17, .ref 101, .retAddr 0, .retAddr 0, .retAddr 0, .retAddr 0] [] (hp nS M) Q := by
  have hw : okw 101 := by unfold okw; omega
  have h16 := hk.n16
  have key : ∀ m j M z3 z4 z5, j + m = dn.n → KC 101 M0 M x (itr (dwS dn) W j) B → WOk x P (itr (dwS dn) W j) → am_Wp (d + 1) 96 2 [.ref 17, .ref 101, .int (nI j), z3, z4, z5] [] (hp nS M) Q := by
    intro m
    induction m with
    | zero =>
      intro j M z3 z4 z5 hj h hO
      have : j = dn.n := by omega
      subst this
      have g39 : M 39 1 = nI dn.n := by rw [h.fr 39 (by unfold chg; omega)]; exact hD.n
      rw [b_96i1_2, g39, if_pos (Int32.le_refl _), b_96i1_151]
      exact hQ M h hO
    | succ m ih =>
      intro j M z3 z4 z5 hj h hO
      have hjn : j < dn.n := by omega
      have g39 : M 39 1 = nI dn.n := by rw [h.fr 39 (by unfold chg; omega)]; exact hD.n
      have e40 : M 40 = M0 40 := h.fr 40 (by unfold chg; omega)
      have c0 : M 40 (5 * j) = nI (dn.day j) := by rw [e40]; exact hD.day j hjn
      have c1 : M 40 (5 * j + 1) = nI (kdC (dn.kd j)) := by rw [e40]; exact hD.kd j hjn
      have c3 : M 40 (5 * j + 3) = nI (if dn.kd j = 3 then dn.wo j else dn.mn j) := by rw [e40]; exact hD.mn j hjn
      have h3 := hk.kd j hjn
      have hmn := hk.mn j hjn
      have hw9 := hk.w9 j hjn
      have m0 : nI j * 5 + 0 = nI (5 * j) := mul5 j 0
      have m1 : nI j * 5 + 1 = nI (5 * j + 1) := mul5 j 1
      have m2 : nI j * 5 + 2 = nI (5 * j + 2) := mul5 j 2
      have m3 : nI j * 5 + 3 = nI (5 * j + 3) := mul5 j 3
      have nx : ∀ M' x3 x4 x5, KC 101 M0 M' x (dwS dn j (itr (dwS dn) W j)) B → am_Wp (d + 1) 96 145 [.ref 17, .ref 101, .int (nI j), .int x3, .int x4, .int x5] [] (hp nS M') Q := by
        intro M' x3 x4 x5 h'
        rw [b_96i1_145, nI_1]
        exact ih (j + 1) M' _ _ _ (by omega) h' (dwS_ok hO hk hjn hL hG)
      rw [b_96i1_2, g39, if_neg (by rw [le_n (by omega) (by omega)]; omega), b_96i1_13, c_33i1 (by rw [m1]; exact in_n (by omega) (by omega)), m1, cl_n (by omega), c1, am_ans_some, b_96i1_22, c_33i1 (by rw [m2]; exact in_n (by omega) (by omega)), m2, cl_n (by omega), am_ans_some, b_96i1_32, c_33i1 (by rw [m3]; exact in_n (by omega) (by omega)), m3, cl_n (by omega), c3, am_ans_some, b_96i1_43, c_33i1 (by rw [m0]; exact in_n (by omega) (by omega)), m0, cl_n (by omega), c0, am_ans_some, b_96i1_54, h.cw.da]
      by_cases cd : nI (dn.day j) = itr (dwS dn) W j 0
      · have ed : dwS dn j (itr (dwS dn) W j) = dwD (dn.kd j) (dn.wo j) (dn.mn j) (itr (dwS dn) W j) := if_pos cd
        rw [ed] at nx
        rw [if_pos cd, b_96i1_64]
        have hkd : dn.kd j = 0 ∨ dn.kd j = 1 ∨ dn.kd j = 2 ∨ dn.kd j = 3 := by omega
        rcases hkd with k | k | k | k
        · have hwo := hk.wo j hjn (by omega)
          have c2 : M 40 (5 * j + 2) = nI (dn.wo j) := by rw [e40]; exact hD.wo j hjn (by omega)
          have g5 : M 106 (dn.wo j) = itr (dwS dn) W j (22 + dn.wo j) := h.cw.sc _ (by omega)
          rw [k] at nx ⊢
          rw [if_pos (show ¬ nI (kdC 0) = 11 by decide), b_96i1_79, c2, c_104i1, am_ans_some, b_96i1_85, ite1_t (hasI h.cw.fL hwo (by omega)), b_96i1_91, if_neg (show ¬ ¬ nI (kdC 0) = 17 by decide), b_96i1_97 (by first | exact in_n (by omega) (by omega) | (simp only [li, nI_add, pk_mul]; exact in_n (by omega) (by omega))), cl_n (by omega), g5, c_296, mn_lt, am_ans_some, b_96i1_118 (by first | exact in_n (by omega) (by omega) | (simp only [li, nI_add, pk_mul]; exact in_n (by omega) (by omega))), cl_n (by omega)]
          exact nx _ _ _ _ (KC_sc h hw (by omega) _)
        · have hwo := hk.wo j hjn (by omega)
          have c2 : M 40 (5 * j + 2) = nI (dn.wo j) := by rw [e40]; exact hD.wo j hjn (by omega)
          rw [k] at nx ⊢
          rw [if_pos (show ¬ nI (kdC 1) = 11 by decide), b_96i1_79, c2, c_104i1, am_ans_some, b_96i1_85, ite1_t (hasI h.cw.fL hwo (by omega)), b_96i1_91, if_pos (show ¬ nI (kdC 1) = 17 by decide), b_96i1_122, if_neg (show ¬ ¬ nI (kdC 1) = 18 by decide), b_96i1_128 (by first | exact in_n (by omega) (by omega) | (simp only [li, nI_add, pk_mul]; exact in_n (by omega) (by omega))), cl_n (by omega)]
          exact nx _ _ _ _ (KC_sc h hw (by omega) _)
        · have hwo := hk.wo j hjn (by omega)
          have c2 : M 40 (5 * j + 2) = nI (dn.wo j) := by rw [e40]; exact hD.wo j hjn (by omega)
          have g4 : M 105 (dn.wo j) = itr (dwS dn) W j (16 + dn.wo j) := h.cw.lo _ (by omega)
          rw [k] at nx ⊢
          rw [if_pos (show ¬ nI (kdC 2) = 11 by decide), b_96i1_79, c2, c_104i1, am_ans_some, b_96i1_85, ite1_t (hasI h.cw.fL hwo (by omega)), b_96i1_91, if_pos (show ¬ nI (kdC 2) = 17 by decide), b_96i1_122, if_pos (show ¬ nI (kdC 2) = 18 by decide), b_96i1_139, c_113i1 (by first | exact in_n (by omega) (by omega) | (simp only [li, nI_add, pk_mul]; exact in_n (by omega) (by omega))) (fun _ => (by first | exact in_n (by omega) (by omega) | (simp only [li, nI_add, pk_mul]; exact in_n (by omega) (by omega)))) (fun _ => (by first | exact in_n (by omega) (by omega) | (simp only [li, nI_add, pk_mul]; exact in_n (by omega) (by omega)))), cl_n (by omega), g4]
          by_cases cl : itr (dwS dn) W j (16 + dn.wo j) = 1
          · have e2 : dwD 2 (dn.wo j) (dn.mn j) (itr (dwS dn) W j) = upd (upd (itr (dwS dn) W j) (16 + dn.wo j) 0) (4 + dn.wo j) 0 := if_pos cl
            rw [e2] at nx
            rw [if_neg (fun z => z cl), am_ans_none]
            exact nx _ _ _ _ (KC_he (KC_lo h hw (by omega) 0) hw (by omega) 0)
          · have e2 : dwD 2 (dn.wo j) (dn.mn j) (itr (dwS dn) W j) = itr (dwS dn) W j := if_neg cl
            rw [e2] at nx
            rw [if_pos cl, am_ans_none]
            exact nx _ _ _ _ h
        · rw [k] at nx ⊢
          rw [if_neg (show ¬ ¬ nI (kdC 3) = 11 by decide), b_96i1_70, if_pos rfl]
          exact nx _ _ _ _ (KC_wi h hw _)
      · have ed : dwS dn j (itr (dwS dn) W j) = itr (dwS dn) W j := if_neg cd
        rw [ed] at nx
        rw [if_neg cd, b_96i1_61]
        exact nx _ _ _ _ h
  rw [b_96i1_0]
  exact key dn.n 0 M _ _ _ (by omega) h hO
end
