section
/-! DAYS GO BY -/
theorem day_ok {l : Lw} {x : Cx} {dn : Dn} {tr : Tr} {P : Nat} {p : Rw × Rw} (hO : WOk x P p.1) (hd : DnOk x dn) (ht : TrOk x tr) (hL : x.L ≤ 6) (hG : x.G ≤ 8) (hT : x.T ≤ 10) (hP : P + 98901 * 17 ≤ 2000000000) (th : Bool) : WOk x (P + 98901 * trE tr (p.1 0) tr.n) (dayP l x dn tr th p).1 := by
  have h16 := ht.n16
  have k1 : ∀ n, n ≤ dn.n → WOk x P (itr (dwS dn) p.1 n) := by
    intro n
    induction n with
    | zero => intro _; exact hO
    | succ n ih => intro hn; rw [itr_s]; exact dwS_ok (ih (by omega)) hd (by omega) hL hG
  have k2 : ∀ n, n ≤ x.L → WOk x P (itr (sgS l x th) ((itr (dwS dn) p.1 dn.n, p.2), 0) n).1.1 := by
    intro n
    induction n with
    | zero => intro _; exact k1 dn.n (Nat.le_refl _)
    | succ n ih => intro hn; rw [itr_s]; exact sgS_ok (ih (by omega)) (by omega) th hG
  have k3 : ∀ n, n ≤ x.G → WOk x P (itr (chS l x) (dy1 l x dn th p).1.1 n) := by
    intro n
    induction n with
    | zero => intro _; exact k2 x.L (Nat.le_refl _)
    | succ n ih => intro hn; rw [itr_s]; exact chS_ok (ih (by omega)) (by omega) hG
  have k4 : ∀ n, n ≤ tr.n → WOk x (P + 98901 * trE tr (p.1 0) n) (itr (trS th tr) (dy2 l x dn th p) n).1 := by
    intro n
    induction n with
    | zero => intro _; exact k3 x.G (Nat.le_refl _)
    | succ n ih =>
      intro hn
      have hle := trE_le tr (p.1 0) n
      have hok := trS_ok (ih (by omega)) ht hT hG (show n < tr.n by omega) (by omega) th
      rw [trI_0, dy2_0] at hok
      rw [itr_s, trE, Nat.mul_add, ← Nat.add_assoc]
      exact hok
  have k5 : ∀ n, n ≤ x.T → WOk x (P + 98901 * trE tr (p.1 0) tr.n) (itr (ruS th x) (itr (trS th tr) (dy2 l x dn th p) tr.n) n).1 := by
    intro n
    induction n with
    | zero => intro _; exact k4 tr.n (Nat.le_refl _)
    | succ n ih => intro hn; rw [itr_s]; exact ruS_ok (ih (by omega)) hG (by omega) th
  exact WOk_oth (k5 x.T (Nat.le_refl _)) _ (by omega) hG
/-! nothing is written in thought -/
theorem nt_t (wh wo mu : Int32) (p : Rw × Rw) : nt true wh wo mu p = p := if_pos (Or.inl rfl)
theorem sgE_t (i : Nat) (f : Bool) (p : Rw × Rw) : (sgE true i f p).2 = p.2 := by
  unfold sgE
  simp only [nt_t]
  cases f
  · by_cases c : p.1 (4 + i) < 500
    · simp only [if_pos c]; rfl
    · simp only [if_neg c]; rfl
  · rfl
theorem sgS_t (l : Lw) (x : Cx) (i : Nat) (q : (Rw × Rw) × Nat) : (sgS l x true i q).1.2 = q.1.2 := by
  unfold sgS
  by_cases c : q.1.1 (16 + i) = 1
  · rw [if_pos c]
  · rw [if_neg c]
    show (sgE true i _ _).2 = _
    rw [sgE_t]
theorem trS_t (t : Tr) (j : Nat) (p : Rw × Rw) : (trS true t j p).2 = p.2 := by
  unfold trS
  by_cases c : nI (t.day j) = p.1 0 ∧ ¬ p.1 (46 + t.wo j) = 1
  · rw [if_pos c]
    unfold trP
    by_cases c2 : trN p.1 (t.wo j) (t.gd j) (t.bu j) (t.mn j) = 0
    · rw [if_pos c2]
    · rw [if_neg c2, nt_t]
  · rw [if_neg c]
theorem ruS_t (x : Cx) (t : Nat) (p : Rw × Rw) : (ruS true x t p).2 = p.2 := by
  unfold ruS
  by_cases c : ¬ p.1 (46 + t) = 1 ∧ brkD p.1 x t = true
  · rw [if_pos c, nt_t]
  · rw [if_neg c]
theorem day_t (l : Lw) (x : Cx) (dn : Dn) (tr : Tr) (p : Rw × Rw) : (dayP l x dn tr true p).2 = p.2 := by
  have k2 : ∀ n, (itr (sgS l x true) ((itr (dwS dn) p.1 dn.n, p.2), 0) n).1.2 = p.2 := by
    intro n
    induction n with
    | zero => rfl
    | succ n ih => rw [itr_s, sgS_t]; exact ih
  have k4 : ∀ n, (itr (trS true tr) (dy2 l x dn true p) n).2 = p.2 := by
    intro n
    induction n with
    | zero => exact k2 x.L
    | succ n ih => rw [itr_s, trS_t]; exact ih
  have k5 : ∀ n, (itr (ruS true x) (itr (trS true tr) (dy2 l x dn true p) tr.n) n).2 = p.2 := by
    intro n
    induction n with
    | zero => exact k4 tr.n
    | succ n ih => rw [itr_s, ruS_t]; exact ih
  exact k5 x.T
/-! several days, one after another -/
def sDay (s : St) : St := sT (sK s) (tW s.t (dayP s.t.l s.t.x s.t.dn s.t.tr false (s.t.W, s.t.B)).1 (dayP s.t.l s.t.x s.t.dn s.t.tr false (s.t.W, s.t.B)).2)
def dS (s : St) : Nat → St
  | 0 => s
  | j + 1 => sDay (dS s j)
def flN (s : St) : Nat → Nat
  | 0 => 0
  | j + 1 => flN s j + (dy1 (dS s j).t.l (dS s j).t.x (dS s j).t.dn false ((dS s j).t.W, (dS s j).t.B)).2
theorem dS_e (s : St) : ∀ j, (dS s j).t.l = s.t.l ∧ (dS s j).t.x = s.t.x ∧ (dS s j).t.dn = s.t.dn ∧ (dS s j).t.tr = s.t.tr
  | 0 => ⟨rfl, rfl, rfl, rfl⟩
  | j + 1 => dS_e s j
theorem fl_le {c : Nat} {s : St} (hG : GI c s) : ∀ j, flN s j ≤ 6 * j
  | 0 => Nat.le_refl _
  | j + 1 => by
    have h1 := fl_le hG j
    have h2 := itr_le (l := (dS s j).t.l) (x := (dS s j).t.x) (th := false) (q := ((itr (dwS (dS s j).t.dn) (dS s j).t.W (dS s j).t.dn.n, (dS s j).t.B), 0)) (dS s j).t.x.L
    have h3 : (dS s j).t.x.L ≤ 6 := by rw [(dS_e s j).2.1]; exact hG.t.L6
    have h4 : (dy1 (dS s j).t.l (dS s j).t.x (dS s j).t.dn false ((dS s j).t.W, (dS s j).t.B)).2 ≤ 0 + (dS s j).t.x.L := h2
    rw [flN]
    omega
abbrev DG (c D : Nat) (s0 : St) (j : Nat) : Prop := (GI (c + 1) (dS s0 j)) ∧ (WOk s0.t.x (9999 + 1582416 * c + 98901 * trC s0.t.tr D j s0.t.tr.n) (dS s0 j).t.W) ∧ ((dS s0 j).t.W 0 = nI (D + j))
theorem DG.gi {c D : Nat} {s0 : St} {j : Nat} (zz : DG c D s0 j) : GI (c + 1) (dS s0 j) := zz.1
theorem DG.ok {c D : Nat} {s0 : St} {j : Nat} (zz : DG c D s0 j) : WOk s0.t.x (9999 + 1582416 * c + 98901 * trC s0.t.tr D j s0.t.tr.n) (dS s0 j).t.W := zz.2.1
theorem DG.dy {c D : Nat} {s0 : St} {j : Nat} (zz : DG c D s0 j) : (dS s0 j).t.W 0 = nI (D + j) := zz.2.2
theorem dG {c D : Nat} {s : St} (hG : GI c s) (hc : c ≤ 1000) (hD : s.t.W 0 = nI D) : ∀ j, D + j ≤ 9999 → DG c D s j
  | 0, h => ⟨GI_mono hG (by omega), by rw [trC_0]; exact hG.t.wg.ok, hD⟩
  | j + 1, h => by
    have ih := dG hG hc hD j (by omega)
    obtain ⟨e1, e2, e3, e4⟩ := dS_e s j
    have hk := GI_K ih.gi
    have hL := hG.t.L6
    have h8 := hG.t.G8
    have h10 := hG.t.T10
    have n16 := hG.t.tk.n16
    have hcl := trC_le s.t.tr D j s.t.tr.n
    have hP : 9999 + 1582416 * c + 98901 * trC s.t.tr D j s.t.tr.n + 98901 * 17 ≤ 2000000000 := by omega
    have hcl2 := trC_le s.t.tr D (j + 1) s.t.tr.n
    have ok := day_ok (l := s.t.l) (p := ((dS s j).t.W, (dS s j).t.B)) ih.ok hG.t.dk hG.t.tk hL h8 h10 hP false
    have ok : WOk s.t.x (9999 + 1582416 * c + 98901 * trC s.t.tr D j s.t.tr.n + 98901 * trE s.t.tr ((dS s j).t.W 0) s.t.tr.n) (dayP s.t.l s.t.x s.t.dn s.t.tr false ((dS s j).t.W, (dS s j).t.B)).1 := ok
    rw [ih.dy, Nat.add_assoc, ← Nat.mul_add, trC_s hG.t.tk D j (by omega) _ (Nat.le_refl _)] at ok
    have dy : (dayP s.t.l s.t.x s.t.dn s.t.tr false ((dS s j).t.W, (dS s j).t.B)).1 0 = nI (D + (j + 1)) := by
      rw [dayP_0]
      show (dS s j).t.W 0 + 1 = _
      rw [ih.dy, nI_1]; rfl
    have zb : ZB s.t.x (dayP s.t.l s.t.x s.t.dn s.t.tr false ((dS s j).t.W, (dS s j).t.B)).1 := ZB_dd (W := (dS s j).t.W) (by have := ih.gi.t.wg.z; rw [e2] at this; exact this) hL h8 h10 (fun q hq => dd_day hq hG.t.dk hG.t.tk h10 h8 _ _ _)
    have wg : WG (c + 1) s.t.x (dayP s.t.l s.t.x s.t.dn s.t.tr false ((dS s j).t.W, (dS s j).t.B)).1 := ⟨WOk_mono ok (by omega), zb, D + (j + 1), dy, by omega⟩
    have es : dayP (dS s j).t.l (dS s j).t.x (dS s j).t.dn (dS s j).t.tr false ((dS s j).t.W, (dS s j).t.B) = dayP s.t.l s.t.x s.t.dn s.t.tr false ((dS s j).t.W, (dS s j).t.B) := by rw [e1, e2, e3, e4]
    refine ⟨⟨GT_tW ih.gi.t ?_, hk.n6, hk.q6, hk.pw, hk.l4, hk.tp, hk.kt⟩, ?_, ?_⟩
    · rw [es, e2]; exact wg
    · show WOk s.t.x _ (dayP (dS s j).t.l (dS s j).t.x (dS s j).t.dn (dS s j).t.tr false ((dS s j).t.W, (dS s j).t.B)).1
      rw [es]; exact ok
    · show (dayP (dS s j).t.l (dS s j).t.x (dS s j).t.dn (dS s j).t.tr false ((dS s j).t.W, (dS s j).t.B)).1 0 = _
      rw [es]; exact dy
theorem x_daysL {nS d c D n : Nat} {Mi : am_M} {s : St} {Q : Option Value → am_H → Prop} (hG : GI c s) (hc : c ≤ 1000) (hD : s.t.W 0 = nI D) (hn : D + n ≤ 9999) (h60 : n ≤ 60) : ∀ (m j : Nat) (M : am_M), j + m = n → CI Mi M (dS s j) → (∀ M', CI Mi M' (dS s n) → Fc M M' → Q (some (.int (nI (flN s n)))) (hp nS M')) → am_Wp (d + 6) 132 37 [.ref 16, .int (nI n), .ref 18, .int (nI (flN s j)), .int (nI j)] [] (hp nS M) Q := by
  intro m
  induction m with
  | zero =>
    intro j M hj hC hQ
    have : j = n := by omega
    subst this
    rw [b_132_37, if_pos (Int32.le_refl _), b_132_69]
    exact hQ M hC (Fc_id M)
  | succ m ih =>
    intro j M hj hC hQ
    have dg := dG hG hc hD j (by omega)
    obtain ⟨e1, e2, e3, e4⟩ := dS_e s j
    have n16 := hG.t.tk.n16
    have hcl := trC_le s.t.tr D j s.t.tr.n
    rw [b_132_37, if_neg (by rw [le_n (by omega) (by omega)]; omega), b_132_43]
    refine x_keep hC dg.gi (fun M1 h1 f1 => ?_)
    rw [am_ans_none, b_132_51]
    have ok := dg.ok
    rw [← e2] at ok
    refine x_day (p := ((dS s j).t.W, (dS s j).t.B)) (P := 9999 + 1582416 * c + 98901 * trC s.t.tr D j s.t.tr.n) (KC_of (s := sK (dS s j)) h1) (Sts_of (s := sK (dS s j)) h1 (GI_K dg.gi)) h1.tw.dn dg.gi.t.dk h1.tw.tr dg.gi.t.tk ok (by omega) (fun M2 h2 _ => ?_)
    rw [am_ans_some, b_132_61, nI_add, nI_1]
    refine ih (j + 1) M2 (by omega) (CI_KC h1 h2) (fun M' h' f' => hQ M' h' (Fc_tr (Fc_tr f1 (Fc_KC h2 (Or.inl rfl))) f'))
theorem m_daysL {nS d c D n : Nat} {s : St} {Q : Option Value → am_H → Prop} (hG : GI c s) (hc : c ≤ 1000) (hD : s.t.W 0 = nI D) (hn : D + n ≤ 9999) (h60 : n ≤ 60) : ∀ (m j : Nat) (M : am_M), j + m = n → MI M (dS s j) → (dS s j).t.W = M 206 → (dS s j).t.B = M 211 → (∀ M', MI M' (dS s n) → Fm M M' → Q (some (.int (nI (flN s n)))) (hp nS M')) → am_Wp (d + 7) 228 36 [.ref 205, .int (nI n), .int (nI (flN s j)), .int (nI j)] [] (hp nS M) Q := by
  intro m
  induction m with
  | zero =>
    intro j M hj hM eW eB hQ
    have : j = n := by omega
    subst this
    rw [b_228_36, if_pos (Int32.le_refl _), b_228_58]
    exact hQ M hM (Fm_id M)
  | succ m ih =>
    intro j M hj hM eW eB hQ
    have dg := dG hG hc hD j (by omega)
    obtain ⟨e1, e2, e3, e4⟩ := dS_e s j
    have n16 := hG.t.tk.n16
    have hcl := trC_le s.t.tr D j s.t.tr.n
    rw [b_228_36, if_neg (by rw [le_n (by omega) (by omega)]; omega), b_228_41]
    refine m_keep hM dg.gi (fun M1 h1 f1 g1 g2 => ?_)
    rw [am_ans_none, b_228_45]
    have ok := dg.ok
    rw [← e2] at ok
    refine m_day (p := ((dS s j).t.W, (dS s j).t.B)) (P := 9999 + 1582416 * c + 98901 * trC s.t.tr D j s.t.tr.n) (KM_of (s := sK (dS s j)) (eW.trans g1.symm) (eB.trans g2.symm)) (Stm_of (s := sK (dS s j)) h1 (GI_K dg.gi)) h1.tw.dn dg.gi.t.dk h1.tw.tr dg.gi.t.tk ok (by omega) (fun M2 h2 => ?_)
    rw [am_ans_some, b_228_50, nI_add, nI_1]
    exact ih (j + 1) M2 (by omega) (MI_KM h1 (GI_K dg.gi) h2) h2.w.symm h2.b.symm (fun M' h' f' => hQ M' h' (Fm_tr (Fm_tr f1 (Fm_KM h2)) f'))
theorem p_days {nS d c : Nat} {Mi M : am_M} {s : St} {x1 : Int32} (hC : CI Mi M s) (hM : MI M s) (hG : GI c s) (hc : c ≤ 1000) : prS nS (d + 12) c Mi 132 [.ref 16, .int x1, .retAddr 0, .retAddr 0, .retAddr 0] 228 [.ref 205, .int x1, .retAddr 0, .retAddr 0] M := by
  obtain ⟨s, hC, hM, hG, eW, eB⟩ := nrm hC hM hG
  obtain ⟨D, hD, hD9⟩ := hG.t.wg.d
  have q4 : M 18 4 = nI D := hC.tw.w.da.trans hD
  unfold prS
  rw [b_132_0, c_125, am_ans_some, b_132_15]
  rcases rng x1 1 60 1 60 rfl rfl (by omega) (by omega) with ⟨o1, i1⟩ | ⟨o1, i1, n, rfl, n1, n2⟩
  · rw [ite1_t o1, b_132_30]
    refine ⟨_, M, rfl, rfl, ?_⟩
    rw [b_228_0, c_171, am_ans_some, b_228_13, ite0_f i1, b_228_30]
    exact Kq_no hC hM hG
  have q4' : am_up M 205 0 0 206 0 = nI D := ((told_MI hM hG).tw.w 0 (by omega)).trans hD
  rw [ite1_f o1, b_132_18, q4, nI_add]
  by_cases hn : D + n ≤ 9999
  · rw [if_pos (by rw [li, le_n (by omega) (by omega)]; exact hn), b_132_32]
    refine x_daysL (d := d + 6) hG hc hD hn n2 n 0 M (by omega) hC (fun M1 hC1 hF => ?_)
    have hM1 : MI M1 s := MI_fr hM hG hF
    have hMT := told_MI hM1 hG
    refine ⟨_, M1, rfl, rfl, ?_⟩
    have u0 : am_up M1 205 0 0 206 0 = nI D := (hMT.tw.w 0 (by omega)).trans hD
    rw [b_228_0, c_171, am_ans_some, b_228_13, ite0_t i1, b_228_16, u0, nI_add, if_pos (by rw [li, le_n (by omega) (by omega)]; exact hn), b_228_32]
    refine m_daysL (d := d + 5) hG hc hD hn n2 n 0 _ (by omega) hMT ?_ ?_ (fun M2 hM2 hF2 => ?_)
    · rw [up_ne _ _ _ (by decide), hF 206 (by omega)]; exact eW
    · rw [up_ne _ _ _ (by decide), hF 211 (by omega)]; exact eB
    · exact Kq_mk hC1 hM2 (Fm_tr (Fm_up _ _ (by omega)) hF2) (dG hG hc hD n hn).gi
  · rw [if_neg (by rw [li, le_n (by omega) (by omega)]; exact hn), b_132_30]
    refine ⟨_, M, rfl, rfl, ?_⟩
    rw [b_228_0, c_171, am_ans_some, b_228_13, ite0_t i1, b_228_16, q4', nI_add, if_neg (by rw [li, le_n (by omega) (by omega)]; exact hn), b_228_30]
    exact Kq_no hC hM hG
end
