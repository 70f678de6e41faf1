section
/-! THE WHOLE DAY -/
def sgS (l : Lw) (x : Cx) (th : Bool) (i : Nat) (q : (Rw × Rw) × Nat) : (Rw × Rw) × Nat := if q.1.1 (16 + i) = 1 then q else ((sng l x th i q.1).1, if (sng l x th i q.1).2 = true then q.2 + 1 else q.2)
def dy1 (l : Lw) (x : Cx) (dn : Dn) (th : Bool) (p : Rw × Rw) : (Rw × Rw) × Nat := itr (sgS l x th) ((itr (dwS dn) p.1 dn.n, p.2), 0) x.L
def dy2 (l : Lw) (x : Cx) (dn : Dn) (th : Bool) (p : Rw × Rw) : Rw × Rw := (itr (chS l x) (dy1 l x dn th p).1.1 x.G, (dy1 l x dn th p).1.2)
def dy3 (l : Lw) (x : Cx) (dn : Dn) (tr : Tr) (th : Bool) (p : Rw × Rw) : Rw × Rw := itr (ruS th x) (itr (trS th tr) (dy2 l x dn th p) tr.n) x.T
def dayP (l : Lw) (x : Cx) (dn : Dn) (tr : Tr) (th : Bool) (p : Rw × Rw) : Rw × Rw := (upd (dy3 l x dn tr th p).1 0 ((dy3 l x dn tr th p).1 0 + 1), (dy3 l x dn tr th p).2)
theorem dwS_0 (dn : Dn) (j : Nat) (W : Rw) : dwS dn j W 0 = W 0 := by
  unfold dwS
  by_cases c : nI (dn.day j) = W 0
  · rw [if_pos c]
    unfold dwD
    by_cases c0 : dn.kd j = 0
    · rw [if_pos c0]; exact upd_ne _ _ (by omega)
    · rw [if_neg c0]
      by_cases c1 : dn.kd j = 1
      · rw [if_pos c1]; exact upd_ne _ _ (by omega)
      · rw [if_neg c1]
        by_cases c3 : dn.kd j = 3
        · rw [if_pos c3]; exact upd_ne _ _ (by omega)
        · rw [if_neg c3]
          by_cases cl : W (16 + dn.wo j) = 1
          · rw [if_pos cl, upd_ne _ _ (by omega), upd_ne _ _ (by omega)]
          · rw [if_neg cl]
  · rw [if_neg c]
theorem dwI_0 (dn : Dn) (W : Rw) : ∀ n, itr (dwS dn) W n 0 = W 0
  | 0 => rfl
  | n + 1 => by rw [itr_s, dwS_0]; exact dwI_0 dn W n
theorem sgE_0 (th : Bool) (i : Nat) (f : Bool) (p : Rw × Rw) : (sgE th i f p).1 0 = p.1 0 := by
  unfold sgE
  show upd _ (22 + i) _ 0 = _
  rw [upd_ne _ _ (by omega)]
  by_cases c : f = true
  · simp only [if_pos c]; exact nt_0 _ _ _ _ _
  · simp only [if_neg c]
    by_cases c2 : p.1 (4 + i) < 500
    · simp only [if_pos c2]
    · simp only [if_neg c2]; rw [nt_0]; exact upd_ne _ _ (by omega)
theorem sng_0 (l : Lw) (x : Cx) (th : Bool) (i : Nat) (p : Rw × Rw) : (sng l x th i p).1.1 0 = p.1 0 := by
  unfold sng
  show (sgE th i _ _).1 0 = _
  rw [sgE_0]
  show (sgM l x th i 30 (upd p.1 (4 + i) 0)).1 0 = _
  rw [sgM_j _ _ _ _ _ (by omega) (by omega) (by omega), upd_ne _ _ (by omega)]
theorem sgI_0 (l : Lw) (x : Cx) (th : Bool) (q : (Rw × Rw) × Nat) : ∀ n, (itr (sgS l x th) q n).1.1 0 = q.1.1 0
  | 0 => rfl
  | n + 1 => by
    rw [itr_s, ← sgI_0 l x th q n]
    generalize itr (sgS l x th) q n = u
    unfold sgS
    by_cases c : u.1.1 (16 + n) = 1
    · rw [if_pos c]
    · rw [if_neg c]; exact sng_0 _ _ _ _ _
theorem chI_0 (l : Lw) (x : Cx) (W : Rw) : ∀ n, itr (chS l x) W n 0 = W 0
  | 0 => rfl
  | n + 1 => by
    rw [itr_s, ← chI_0 l x W n]
    generalize itr (chS l x) W n = u
    unfold chS
    by_cases c : x.up n = 0 ∨ ¬ u (16 + (x.up n - 1)) = 1
    · rw [if_pos c]; exact upd_ne _ _ (by omega)
    · rw [if_neg c]
theorem dy2_0 (l : Lw) (x : Cx) (dn : Dn) (th : Bool) (p : Rw × Rw) : (dy2 l x dn th p).1 0 = p.1 0 := by
  show itr (chS l x) (dy1 l x dn th p).1.1 x.G 0 = _
  rw [chI_0]
  show (itr (sgS l x th) ((itr (dwS dn) p.1 dn.n, p.2), 0) x.L).1.1 0 = _
  rw [sgI_0]
  exact dwI_0 dn p.1 dn.n
theorem dayP_0 (l : Lw) (x : Cx) (dn : Dn) (tr : Tr) (th : Bool) (p : Rw × Rw) : (dayP l x dn tr th p).1 0 = p.1 0 + 1 := by
  show upd (dy3 l x dn tr th p).1 0 ((dy3 l x dn tr th p).1 0 + 1) 0 = _
  rw [upd_same]
  congr 1
  show (itr (ruS th x) (itr (trS th tr) (dy2 l x dn th p) tr.n) x.T).1 0 = _
  rw [ruI_p th x _ (by omega) _ (fun t ht => by omega), trI_0, dy2_0]
theorem sgS_ok {l : Lw} {x : Cx} {P : Nat} {q : (Rw × Rw) × Nat} {i : Nat} (h : WOk x P q.1.1) (hi : i < 6) (th : Bool) (hG : x.G ≤ 8) : WOk x P (sgS l x th i q).1.1 := by
  unfold sgS
  by_cases c : q.1.1 (16 + i) = 1
  · rw [if_pos c]; exact h
  · rw [if_neg c]; exact sng_ok (W := q.1.1) (B := q.1.2) h hi th hG
theorem itr_le {l : Lw} {x : Cx} {th : Bool} {q : (Rw × Rw) × Nat} : ∀ n, (itr (sgS l x th) q n).2 ≤ q.2 + n
  | 0 => Nat.le_refl _
  | n + 1 => by
    have := itr_le (l := l) (x := x) (th := th) (q := q) n
    rw [itr_s]
    generalize itr (sgS l x th) q n = u at *
    unfold sgS
    by_cases c : u.1.1 (16 + n) = 1
    · rw [if_pos c]; omega
    · rw [if_neg c]
      show (if (sng l x th n u.1).2 = true then u.2 + 1 else u.2) ≤ _
      by_cases c2 : (sng l x th n u.1).2 = true
      · rw [if_pos c2]; omega
      · rw [if_neg c2]; omega
theorem x_day {d nS : Nat} {M0 : am_M} {x : Cx} {p : Rw × Rw} {l : Lw} {dn : Dn} {tr : Tr} {P : Nat} {M : am_M} {Q : Option Value → am_H → Prop} (h : KC 18 M0 M x p.1 p.2) (hs : Sts M0 l x) (hD : CDn 39 M0 dn) (hdk : DnOk x dn) (hT : CTr 41 M0 tr) (htk : TrOk x tr) (hO : WOk x P p.1) (hP : P + 98901 * 17 ≤ 2000000000) (hQ : ∀ M', KC 18 M0 M' x (dayP l x dn tr false p).1 (dayP l x dn tr false p).2 → WOk x (P + 98901 * trE tr (p.1 0) tr.n) (dayP l x dn tr false p).1 → Q (some (.int (nI (dy1 l x dn false p).2))) (hp nS M')) : am_Wp (d + 4) 95 0 [.ref 17, .ref 18, .int 1, .retAddr 0, .retAddr 0] [] (hp nS M) Q := by
  have hw : okw 18 := by unfold okw; omega
  have hL := hs.L6
  have hG := hs.G8
  have hT10 := hs.T10
  have h16 := htk.n16
  have hfin : ∀ M x4, KC 18 M0 M x (itr (trS false tr) (dy2 l x dn false p) tr.n).1 (itr (trS false tr) (dy2 l x dn false p) tr.n).2 → WOk x (P + 98901 * trE tr (p.1 0) tr.n) (itr (trS false tr) (dy2 l x dn false p) tr.n).1 → am_Wp (d + 4) 95 100 [.ref 17, .ref 18, .int 1, .int (nI (dy1 l x dn false p).2), .int x4] [] (hp nS M) Q := by
    intro M x4 h hO
    have hle := trE_le tr (p.1 0) tr.n
    rw [b_95_100]
    refine x_ruins h hT10 hG hO (by omega) (fun M' h' hO' => ?_)
    rw [am_ans_none, b_95_106, h'.cw.da]
    exact hQ _ (KC_da h' hw _) (WOk_oth hO' _ (by omega) hG)
  have k3 : ∀ m j M, j + m = tr.n → KC 18 M0 M x (itr (trS false tr) (dy2 l x dn false p) j).1 (itr (trS false tr) (dy2 l x dn false p) j).2 → WOk x (P + 98901 * trE tr (p.1 0) j) (itr (trS false tr) (dy2 l x dn false p) j).1 → am_Wp (d + 4) 95 57 [.ref 17, .ref 18, .int 1, .int (nI (dy1 l x dn false p).2), .int (nI j)] [] (hp nS M) Q := by
    intro m
    induction m with
    | zero =>
      intro j M hj h hO
      have : j = tr.n := by omega
      subst this
      have g41 : M 41 1 = nI tr.n := by rw [h.fr 41 (by unfold chg; omega)]; exact hT.n
      rw [b_95_57, g41, if_pos (Int32.le_refl _)]
      exact hfin M _ h hO
    | succ m ih =>
      intro j M hj h hO
      have hjn : j < tr.n := by omega
      have hle := trE_le tr (p.1 0) j
      have g41 : M 41 1 = nI tr.n := by rw [h.fr 41 (by unfold chg; omega)]; exact hT.n
      have c0 : M 42 (5 * j) = nI (tr.day j) := by rw [h.fr 42 (by unfold chg; omega)]; exact hT.day j hjn
      have m0 : nI j * 5 + 0 = nI (5 * j) := mul5 j 0
      have e0 : (itr (trS false tr) (dy2 l x dn false p) j).1 0 = p.1 0 := by rw [trI_0, dy2_0]
      have hok := trS_ok hO htk hT10 hG hjn (by omega) false
      have nx : ∀ M', KC 18 M0 M' x (trS false tr j (itr (trS false tr) (dy2 l x dn false p) j)).1 (trS false tr j (itr (trS false tr) (dy2 l x dn false p) j)).2 → am_Wp (d + 4) 95 94 [.ref 17, .ref 18, .int 1, .int (nI (dy1 l x dn false p).2), .int (nI j)] [] (hp nS M') Q := by
        intro M' h'
        rw [b_95_94, nI_1]
        refine ih (j + 1) M' (by omega) h' ?_
        rw [e0] at hok
        rw [trE, Nat.mul_add, ← Nat.add_assoc]
        exact hok
      rw [b_95_57, g41, if_neg (by rw [le_n (by omega) (by omega)]; omega), b_95_69, c_33 (by rw [m0]; exact in_n (by omega) (by omega)), m0, cl_n (by omega), c0, am_ans_some, b_95_79, h.cw.da]
      by_cases cd : nI (tr.day j) = (itr (trS false tr) (dy2 l x dn false p) j).1 0
      · rw [if_neg (fun z => z cd), b_95_86]
        refine x_deals h hT htk hT10 hG hjn hO (by omega) cd (fun M' h' => ?_)
        rw [am_ans_none]
        exact nx M' h'
      · have e : trS false tr j (itr (trS false tr) (dy2 l x dn false p) j) = itr (trS false tr) (dy2 l x dn false p) j := if_neg (fun z => cd z.1)
        rw [e] at nx
        rw [if_pos cd]
        exact nx M h
  have k1 : ∀ m i M, i + m = x.L → KC 18 M0 M x (itr (sgS l x false) ((itr (dwS dn) p.1 dn.n, p.2), 0) i).1.1 (itr (sgS l x false) ((itr (dwS dn) p.1 dn.n, p.2), 0) i).1.2 → WOk x P (itr (sgS l x false) ((itr (dwS dn) p.1 dn.n, p.2), 0) i).1.1 → am_Wp (d + 4) 95 10 [.ref 17, .ref 18, .int 1, .int (nI (itr (sgS l x false) ((itr (dwS dn) p.1 dn.n, p.2), 0) i).2), .int (nI i)] [] (hp nS M) Q := by
    intro m
    induction m with
    | zero =>
      intro i M hi h hO
      have : i = x.L := by omega
      subst this
      rw [b_95_10, h.cw.fL, if_pos (Int32.le_refl _), b_95_49]
      refine x_chalks h hs hO (fun M' h' hO' => ?_)
      rw [am_ans_none, b_95_54]
      exact k3 tr.n 0 M' (by omega) h' hO'
    | succ m ih =>
      intro i M hi h hO
      have hil : i < x.L := by omega
      have hcn := itr_le (l := l) (x := x) (th := false) (q := ((itr (dwS dn) p.1 dn.n, p.2), 0)) i
      have hn := ih (i + 1)
      rw [itr_s] at hn
      have hok := sgS_ok (l := l) hO (show i < 6 by omega) false hG
      generalize itr (sgS l x false) ((itr (dwS dn) p.1 dn.n, p.2), 0) i = u at *
      have g4 : M 22 i = u.1.1 (16 + i) := h.cw.lo i (by omega)
      rw [b_95_10, h.cw.fL, if_neg (by rw [le_n (by omega) (by omega)]; omega), b_95_19 (by first | exact in_n (by omega) (by omega) | (simp only [li, nI_add, pk_mul]; exact in_n (by omega) (by omega))), cl_n (by omega), g4]
      rcases hO.lo i (by omega) with c | c
      · have e : sgS l x false i u = ((sng l x false i u.1).1, if (sng l x false i u.1).2 = true then u.2 + 1 else u.2) := if_neg (by rw [c]; decide)
        rw [e] at hn hok
        rw [if_neg (fun z => z c), b_95_29]
        refine x_sng (W := u.1.1) (B := u.1.2) h hs hil hO.wr (fun M' h' => ?_)
        rw [am_ans_some, b_95_37]
        cases hf : (sng l x false i u.1).2 with
        | true =>
          rw [hf, if_pos rfl] at hn
          rw [if_neg (show ¬ bI true = 0 by decide), b_95_40, b_95_43, nI_1, nI_1]
          exact hn M' (by omega) h' hok
        | false =>
          rw [hf, if_neg (by decide)] at hn
          rw [if_pos (show bI false = 0 from rfl), b_95_43, nI_1]
          exact hn M' (by omega) h' hok
      · have e : sgS l x false i u = u := if_pos c
        rw [e] at hn
        rw [if_pos (by rw [c]; decide), b_95_43, nI_1]
        exact hn M (by omega) h hO
  rw [b_95_0]
  refine x_boys h hD hdk hL hG hO (fun M' h' hO' => ?_)
  rw [am_ans_none, b_95_5]
  exact k1 x.L 0 M' (by omega) h' hO'
theorem x_dayi1 {d nS : Nat} {M0 : am_M} {x : Cx} {p : Rw × Rw} {l : Lw} {dn : Dn} {tr : Tr} {P : Nat} {M : am_M} {Q : Option Value → am_H → Prop} (h : KC 101 M0 M x p.1 p.2) (hs : Sts M0 l x) (hD : CDn 39 M0 dn) (hdk : DnOk x dn) (hT : CTr 41 M0 tr) (htk : TrOk x tr) (hO : WOk x P p.1) (hP : P + 98901 * 17 ≤ 2000000000) (hQ : ∀ M', KC 101 M0 M' x (dayP l x dn tr true p).1 (dayP l x dn tr true p).2 → WOk x (P + 98901 * trE tr (p.1 0) tr.n) (dayP l x dn tr true p).1 → Q (some (.int (nI (dy1 l x dn true p).2))) (hp nS M')) : am_Wp (d + 4) 95 0 [.ref 17, .ref 101, .int 0, .retAddr 0, .retAddr 0] [] (hp nS M) Q := by
  have hw : okw 101 := by unfold okw; omega
  have hL := hs.L6
  have hG := hs.G8
  have hT10 := hs.T10
  have h16 := htk.n16
  have hfin : ∀ M x4, KC 101 M0 M x (itr (trS true tr) (dy2 l x dn true p) tr.n).1 (itr (trS true tr) (dy2 l x dn true p) tr.n).2 → WOk x (P + 98901 * trE tr (p.1 0) tr.n) (itr (trS true tr) (dy2 l x dn true p) tr.n).1 → am_Wp (d + 4) 95 100 [.ref 17, .ref 101, .int 0, .int (nI (dy1 l x dn true p).2), .int x4] [] (hp nS M) Q := by
    intro M x4 h hO
    have hle := trE_le tr (p.1 0) tr.n
    rw [b_95i1_100]
    refine x_ruinsi1 h hT10 hG hO (by omega) (fun M' h' hO' => ?_)
    rw [am_ans_none, b_95i1_106, h'.cw.da]
    exact hQ _ (KC_da h' hw _) (WOk_oth hO' _ (by omega) hG)
  have k3 : ∀ m j M, j + m = tr.n → KC 101 M0 M x (itr (trS true tr) (dy2 l x dn true p) j).1 (itr (trS true tr) (dy2 l x dn true p) j).2 → WOk x (P + 98901 * trE tr (p.1 0) j) (itr (trS true tr) (dy2 l x dn true p) j).1 → am_Wp (d + 4) 95 57 [.ref 17, .ref 101, .int 0, .int (nI (dy1 l x dn true p).2), .int (nI j)] [] (hp nS M) Q := by
    intro m
    induction m with
    | zero =>
      intro j M hj h hO
      have : j = tr.n := by omega
      subst this
      have g41 : M 41 1 = nI tr.n := by rw [h.fr 41 (by unfold chg; omega)]; exact hT.n
      rw [b_95i1_57, g41, if_pos (Int32.le_refl _)]
      exact hfin M _ h hO
    | succ m ih =>
      intro j M hj h hO
      have hjn : j < tr.n := by omega
      have hle := trE_le tr (p.1 0) j
      have g41 : M 41 1 = nI tr.n := by rw [h.fr 41 (by unfold chg; omega)]; exact hT.n
      have c0 : M 42 (5 * j) = nI (tr.day j) := by rw [h.fr 42 (by unfold chg; omega)]; exact hT.day j hjn
      have m0 : nI j * 5 + 0 = nI (5 * j) := mul5 j 0
      have e0 : (itr (trS true tr) (dy2 l x dn true p) j).1 0 = p.1 0 := by rw [trI_0, dy2_0]
      have hok := trS_ok hO htk hT10 hG hjn (by omega) true
      have nx : ∀ M', KC 101 M0 M' x (trS true tr j (itr (trS true tr) (dy2 l x dn true p) j)).1 (trS true tr j (itr (trS true tr) (dy2 l x dn true p) j)).2 → am_Wp (d + 4) 95 94 [.ref 17, .ref 101, .int 0, .int (nI (dy1 l x dn true p).2), .int (nI j)] [] (hp nS M') Q := by
        intro M' h'
        rw [b_95i1_94, nI_1]
        refine ih (j + 1) M' (by omega) h' ?_
        rw [e0] at hok
        rw [trE, Nat.mul_add, ← Nat.add_assoc]
        exact hok
      rw [b_95i1_57, g41, if_neg (by rw [le_n (by omega) (by omega)]; omega), b_95i1_69, c_33 (by rw [m0]; exact in_n (by omega) (by omega)), m0, cl_n (by omega), c0, am_ans_some, b_95i1_79, h.cw.da]
      by_cases cd : nI (tr.day j) = (itr (trS true tr) (dy2 l x dn true p) j).1 0
      · rw [if_neg (fun z => z cd), b_95i1_86]
        refine x_dealsi1 h hT htk hT10 hG hjn hO (by omega) cd (fun M' h' => ?_)
        rw [am_ans_none]
        exact nx M' h'
      · have e : trS true tr j (itr (trS true tr) (dy2 l x dn true p) j) = itr (trS true tr) (dy2 l x dn true p) j := if_neg (fun z => cd z.1)
        rw [e] at nx
        rw [if_pos cd]
        exact nx M h
  have k1 : ∀ m i M, i + m = x.L → KC 101 M0 M x (itr (sgS l x true) ((itr (dwS dn) p.1 dn.n, p.2), 0) i).1.1 (itr (sgS l x true) ((itr (dwS dn) p.1 dn.n, p.2), 0) i).1.2 → WOk x P (itr (sgS l x true) ((itr (dwS dn) p.1 dn.n, p.2), 0) i).1.1 → am_Wp (d + 4) 95 10 [.ref 17, .ref 101, .int 0, .int (nI (itr (sgS l x true) ((itr (dwS dn) p.1 dn.n, p.2), 0) i).2), .int (nI i)] [] (hp nS M) Q := by
    intro m
    induction m with
    | zero =>
      intro i M hi h hO
      have : i = x.L := by omega
      subst this
      rw [b_95i1_10, h.cw.fL, if_pos (Int32.le_refl _), b_95i1_49]
      refine x_chalksi1 h hs hO (fun M' h' hO' => ?_)
      rw [am_ans_none, b_95i1_54]
      exact k3 tr.n 0 M' (by omega) h' hO'
    | succ m ih =>
      intro i M hi h hO
      have hil : i < x.L := by omega
      have hcn := itr_le (l := l) (x := x) (th := true) (q := ((itr (dwS dn) p.1 dn.n, p.2), 0)) i
      have hn := ih (i + 1)
      rw [itr_s] at hn
      have hok := sgS_ok (l := l) hO (show i < 6 by omega) true hG
      generalize itr (sgS l x true) ((itr (dwS dn) p.1 dn.n, p.2), 0) i = u at *
      have g4 : M 105 i = u.1.1 (16 + i) := h.cw.lo i (by omega)
      rw [b_95i1_10, h.cw.fL, if_neg (by rw [le_n (by omega) (by omega)]; omega), b_95i1_19 (by first | exact in_n (by omega) (by omega) | (simp only [li, nI_add, pk_mul]; exact in_n (by omega) (by omega))), cl_n (by omega), g4]
      rcases hO.lo i (by omega) with c | c
      · have e : sgS l x true i u = ((sng l x true i u.1).1, if (sng l x true i u.1).2 = true then u.2 + 1 else u.2) := if_neg (by rw [c]; decide)
        rw [e] at hn hok
        rw [if_neg (fun z => z c), b_95i1_29]
        refine x_sngi1 (W := u.1.1) (B := u.1.2) h hs hil hO.wr (fun M' h' => ?_)
        rw [am_ans_some, b_95i1_37]
        cases hf : (sng l x true i u.1).2 with
        | true =>
          rw [hf, if_pos rfl] at hn
          rw [if_neg (show ¬ bI true = 0 by decide), b_95i1_40, b_95i1_43, nI_1, nI_1]
          exact hn M' (by omega) h' hok
        | false =>
          rw [hf, if_neg (by decide)] at hn
          rw [if_pos (show bI false = 0 from rfl), b_95i1_43, nI_1]
          exact hn M' (by omega) h' hok
      · have e : sgS l x true i u = u := if_pos c
        rw [e] at hn
        rw [if_pos (by rw [c]; decide), b_95i1_43, nI_1]
        exact hn M (by omega) h hO
  rw [b_95i1_0]
  refine x_boysi1 h hD hdk hL hG hO (fun M' h' hO' => ?_)
  rw [am_ans_none, b_95i1_5]
  exact k1 x.L 0 M' (by omega) h' hO'
end
