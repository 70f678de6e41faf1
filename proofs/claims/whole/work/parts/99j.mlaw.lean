section
/-! THE LAW, as the model reads it -/
theorem m_any {d nS n N j : Nat} {tp : Nat → Nat} {c : CS} {M0 : am_M} {M : am_M} {Q : Option Value → am_H → Prop} (hT : TT tp n N M0) (h : PM tp n N j c M0 M) (hc : c.1 ≤ j) (h0 : M 205 30 = nI 0) (hE : ∀ e M', pCh (kK tp n) (pSg (kK tp n) (kV tp n) 9 0) j c = .error e → FM tp n e M0 M' → Q (some (.int (-1))) (hp nS M')) (hO : ∀ q M', pCh (kK tp n) (pSg (kK tp n) (kV tp n) 9 0) j c = .ok q → PQ tp n N q.1 q.2 [] M0 M' → Q (some (.int 0)) (hp nS M')) : am_Wp (d + 8) 211 0 [.ref 205, .retAddr 0, .retAddr 0, .retAddr 0] [] (hp nS M) Q := by
  have hte := hT.e
  have hl := hT.e.l
  have hj := h.jn
  have h1 : PQ tp n N j c [] M0 (am_up M 205 32 0) := ⟨AT_f h.a (fun k hk => up_pt _ _ (by omega)), hj, by rw [up_pt _ _ (by omega)]; exact h.u, fun i hi => by rw [up_pt _ _ (by omega)]; exact h.op i hi, fun i hi => by rw [up_pt _ _ (by omega)]; exact h.ar i hi, by rw [up_same, upd_same]; rfl, trivial, by rw [up_pt _ _ (by omega)]; exact h0, fun a k hk => by rw [up_pt _ _ (by omega)]; exact h.f a k (by omega)⟩
  rw [b_211_0]
  have hsg := m_sg (d := d) (nS := nS) hT 9 0 (by omega) (by omega)
  unfold pCh at hE hO
  refine hsg j c [] _ _ Q rfl (by decide) (fun x hx => by cases hx) hc h1 (fun e M' he hf => hE e M' (by rw [he]) hf) (fun q M' z' hq hp' => ?_)
  have co := pSg_ok hte 9 0 j c q (by omega) hj hq
  have o1 := co.a
  have o2 := co.b
  have o3 := co.n
  rw [hq] at hE hO
  refine m_chL (L := 10) (B := []) hT hsg (fun j c q hj h => pSg_ok hte 9 0 j c q (by omega) hj h) (fun x hx => by cases hx) (fun x hx => by cases hx) (by decide) (by decide) rfl 400 false false q.1 q.2 M' z' (by omega) (by show q.2.1 + 0 ≤ q.1; omega) hp' (fun e M2 he hf => hE e M2 (by rw [if_neg (by decide)] at he; exact he) hf) (fun r M2 z2 hr h2 => ?_)
  rw [b_211_185, if_neg (fun z => z rfl), b_211_189]
  exact hO r M2 (by rw [if_neg (by decide)] at hr; exact hr) h2
def sL (a k : Nat) : Prop := (a = 205 ∧ (k = 16 ∨ k = 17 ∨ k = 18 ∨ k = 19 ∨ k = 29 ∨ k = 30 ∨ k = 32)) ∨ a = 221 ∨ ((a = 219 ∨ a = 220) ∧ 800 ≤ k) ∨ (215 ≤ a ∧ a ≤ 218 ∧ 32 ≤ k)
def sF (a k : Nat) : Prop := sL a k ∨ (a = 205 ∧ (k = 33 ∨ k = 34)) ∨ ((a = 222 ∨ a = 223) ∧ 64 ≤ k) ∨ (a = 224 ∧ 8 ≤ k)
theorem sL_pm {a k : Nat} (z : (a = 205 ∧ (k = 16 ∨ k = 17 ∨ k = 18 ∨ k = 19 ∨ k = 29)) ∨ ((a = 219 ∨ a = 220) ∧ 800 ≤ k)) : sL a k := z.elim (fun z => Or.inl ⟨z.1, by have := z.2; omega⟩) (fun z => Or.inr (Or.inr (Or.inl z)))
theorem sL_pq {a k : Nat} (z : (a = 205 ∧ (k = 16 ∨ k = 17 ∨ k = 18 ∨ k = 19 ∨ k = 29 ∨ k = 30 ∨ k = 32)) ∨ a = 221 ∨ ((a = 219 ∨ a = 220) ∧ 800 ≤ k)) : sL a k := z.elim Or.inl (fun z => Or.inr (z.elim Or.inl (fun z => Or.inr (Or.inl z))))
theorem sF_fm {a k : Nat} (z : (a = 205 ∧ (k = 16 ∨ k = 17 ∨ k = 18 ∨ k = 19 ∨ k = 29 ∨ k = 30 ∨ k = 32 ∨ k = 33 ∨ k = 34)) ∨ a = 221 ∨ ((a = 219 ∨ a = 220) ∧ 800 ≤ k)) : sF a k := by
  rcases z with ⟨z1, z2⟩ | z | z
  · by_cases c : k = 33 ∨ k = 34
    · exact Or.inr (Or.inl ⟨z1, c⟩)
    · exact Or.inl (Or.inl ⟨z1, by omega⟩)
  · exact Or.inl (Or.inr (Or.inl z))
  · exact Or.inl (Or.inr (Or.inr (Or.inl z)))
def eL (M0 M : am_M) : Prop := ∀ a k, ¬ sL a k → M a k = M0 a k
theorem eL_pm {tp : Nat → Nat} {n N j : Nat} {c : CS} {M0 M1 M : am_M} (h : PM tp n N j c M1 M) (f : eL M0 M1) : eL M0 M := fun a k hk => (h.f a k (fun z => hk (sL_pm z))).trans (f a k hk)
theorem eL_pq {tp : Nat → Nat} {n N j : Nat} {c : CS} {S : List Nat} {M0 M1 M : am_M} (h : PQ tp n N j c S M1 M) (f : eL M0 M1) : eL M0 M := fun a k hk => (h.f a k (fun z => hk (sL_pq z))).trans (f a k hk)
theorem eL_up {M0 M : am_M} (f : eL M0 M) {b q : Nat} (v : Int32) (h1 : 215 ≤ b) (h2 : b ≤ 218) (h3 : 32 ≤ q) : eL M0 (am_up M b q v) := fun a k hk => by
  have hne : ¬ (a = b ∧ k = q) := fun z => hk (Or.inr (Or.inr (Or.inr ⟨by omega, by omega, by omega⟩)))
  rw [up_pt _ _ hne]; exact f a k hk
abbrev LM (tp : Nat → Nat) (n N j : Nat) (l : Lw) (M0 M : am_M) : Prop := (AT tp n j M) ∧ (j ≤ N) ∧ (M 205 29 = nI l.u) ∧ (∀ i, i < l.u → M 219 (800 + i) = opM (l.cs i)) ∧ (∀ i, i < l.u → M 220 (800 + i) = arM (l.cs i)) ∧ (∀ k, k < l.n → M 215 (32 + k) = nI (l.w k)) ∧ (∀ k, k < l.n → M 216 (32 + k) = nI (l.f k)) ∧ (∀ k, k < l.n → M 217 (32 + k) = nI (l.h k)) ∧ (∀ k, k < l.n → M 218 (32 + k) = nI (l.t k)) ∧ (M 205 30 = nI 0) ∧ (eL M0 M)
theorem LM.a {tp : Nat → Nat} {n N j : Nat} {l : Lw} {M0 M : am_M} (zz : LM tp n N j l M0 M) : AT tp n j M := zz.1
theorem LM.jn {tp : Nat → Nat} {n N j : Nat} {l : Lw} {M0 M : am_M} (zz : LM tp n N j l M0 M) : j ≤ N := zz.2.1
theorem LM.u {tp : Nat → Nat} {n N j : Nat} {l : Lw} {M0 M : am_M} (zz : LM tp n N j l M0 M) : M 205 29 = nI l.u := zz.2.2.1
theorem LM.op {tp : Nat → Nat} {n N j : Nat} {l : Lw} {M0 M : am_M} (zz : LM tp n N j l M0 M) : ∀ i, i < l.u → M 219 (800 + i) = opM (l.cs i) := zz.2.2.2.1
theorem LM.ar {tp : Nat → Nat} {n N j : Nat} {l : Lw} {M0 M : am_M} (zz : LM tp n N j l M0 M) : ∀ i, i < l.u → M 220 (800 + i) = arM (l.cs i) := zz.2.2.2.2.1
theorem LM.w {tp : Nat → Nat} {n N j : Nat} {l : Lw} {M0 M : am_M} (zz : LM tp n N j l M0 M) : ∀ k, k < l.n → M 215 (32 + k) = nI (l.w k) := zz.2.2.2.2.2.1
theorem LM.v {tp : Nat → Nat} {n N j : Nat} {l : Lw} {M0 M : am_M} (zz : LM tp n N j l M0 M) : ∀ k, k < l.n → M 216 (32 + k) = nI (l.f k) := zz.2.2.2.2.2.2.1
theorem LM.h {tp : Nat → Nat} {n N j : Nat} {l : Lw} {M0 M : am_M} (zz : LM tp n N j l M0 M) : ∀ k, k < l.n → M 217 (32 + k) = nI (l.h k) := zz.2.2.2.2.2.2.2.1
theorem LM.t {tp : Nat → Nat} {n N j : Nat} {l : Lw} {M0 M : am_M} (zz : LM tp n N j l M0 M) : ∀ k, k < l.n → M 218 (32 + k) = nI (l.t k) := zz.2.2.2.2.2.2.2.2.1
theorem LM.o {tp : Nat → Nat} {n N j : Nat} {l : Lw} {M0 M : am_M} (zz : LM tp n N j l M0 M) : M 205 30 = nI 0 := zz.2.2.2.2.2.2.2.2.2.1
theorem LM.f {tp : Nat → Nat} {n N j : Nat} {l : Lw} {M0 M : am_M} (zz : LM tp n N j l M0 M) : eL M0 M := zz.2.2.2.2.2.2.2.2.2.2
abbrev FL (tp : Nat → Nat) (n : Nat) (e : Nat × Nat) (M0 M : am_M) : Prop := (M 205 33 = nI e.1) ∧ (M 205 34 = nI (ps tp n e.2)) ∧ (∀ a k, ¬ sF a k → M a k = M0 a k)
theorem FL.k {tp : Nat → Nat} {n : Nat} {e : Nat × Nat} {M0 M : am_M} (zz : FL tp n e M0 M) : M 205 33 = nI e.1 := zz.1
theorem FL.p {tp : Nat → Nat} {n : Nat} {e : Nat × Nat} {M0 M : am_M} (zz : FL tp n e M0 M) : M 205 34 = nI (ps tp n e.2) := zz.2.1
theorem FL.f {tp : Nat → Nat} {n : Nat} {e : Nat × Nat} {M0 M : am_M} (zz : FL tp n e M0 M) : ∀ a k, ¬ sF a k → M a k = M0 a k := zz.2.2
theorem FL_m {tp : Nat → Nat} {n : Nat} {e : Nat × Nat} {M0 M1 M : am_M} (h : FM tp n e M1 M) (g : eL M0 M1) : FL tp n e M0 M := ⟨h.k, h.p, fun a k hk => (h.f a k (fun z => hk (sF_fm z))).trans (g a k (fun z => hk (Or.inl z)))⟩
theorem TT_f {tp : Nat → Nat} {n N : Nat} {M0 M : am_M} (h : TT tp n N M0) (g : eL M0 M) : TT tp n N M := ⟨⟨by rw [g _ _ (by unfold sL; omega)]; exact h.m.n, fun k hk => by rw [g _ _ (by unfold sL; omega)]; exact h.m.t k hk, h.m.l, h.m.b, fun k hk => by rw [g _ _ (by unfold sL; omega)]; exact h.m.w k hk⟩, h.e⟩
/-- the four rows of the draft, and that nothing is waited for -/
def R4 (x1 x2 x3 x4 : Nat → Nat) (n1 n2 n3 n4 : Nat) (M : am_M) : Prop := (∀ k, k < n1 → M 215 (32 + k) = nI (x1 k)) ∧ (∀ k, k < n2 → M 216 (32 + k) = nI (x2 k)) ∧ (∀ k, k < n3 → M 217 (32 + k) = nI (x3 k)) ∧ (∀ k, k < n4 → M 218 (32 + k) = nI (x4 k)) ∧ M 205 30 = nI 0
theorem R4_pm {x1 x2 x3 x4 : Nat → Nat} {n1 n2 n3 n4 : Nat} {tp : Nat → Nat} {n N j : Nat} {c : CS} {M1 M : am_M} (r : R4 x1 x2 x3 x4 n1 n2 n3 n4 M1) (h : PM tp n N j c M1 M) : R4 x1 x2 x3 x4 n1 n2 n3 n4 M := ⟨fun k hk => (h.f _ _ (by omega)).trans (r.1 k hk), fun k hk => (h.f _ _ (by omega)).trans (r.2.1 k hk), fun k hk => (h.f _ _ (by omega)).trans (r.2.2.1 k hk), fun k hk => (h.f _ _ (by omega)).trans (r.2.2.2.1 k hk), (h.f _ _ (by omega)).trans r.2.2.2.2⟩
theorem R4_pq {x1 x2 x3 x4 : Nat → Nat} {n1 n2 n3 n4 : Nat} {tp : Nat → Nat} {n N j : Nat} {c : CS} {M1 M : am_M} (r : R4 x1 x2 x3 x4 n1 n2 n3 n4 M1) (h : PQ tp n N j c [] M1 M) : R4 x1 x2 x3 x4 n1 n2 n3 n4 M := ⟨fun k hk => (h.f _ _ (by omega)).trans (r.1 k hk), fun k hk => (h.f _ _ (by omega)).trans (r.2.1 k hk), fun k hk => (h.f _ _ (by omega)).trans (r.2.2.1 k hk), fun k hk => (h.f _ _ (by omega)).trans (r.2.2.2.1 k hk), h.po⟩
theorem nu_up {x : Nat → Nat} {M : am_M} {b n v : Nat} (h : ∀ k, k < n → M b (32 + k) = nI (x k)) : ∀ k, k < n + 1 → am_up M b (32 + n) (nI v) b (32 + k) = nI (nu x n v k) := fun k hk => by
  by_cases e : k = n
  · rw [e, up_same, upd_same, nu_same]
  · rw [up_pt _ _ (by omega), nu_ne _ _ e]; exact h k (by omega)
theorem PM_up {tp : Nat → Nat} {n N j b q : Nat} {c : CS} {M1 M : am_M} (h : PM tp n N j c M1 M) (v : Int32) (hb : 215 ≤ b) (hb2 : b ≤ 218) : PM tp n N j c (am_up M b q v) (am_up M b q v) := ⟨AT_f h.a (fun k hk => up_pt _ _ (by omega)), h.jn, (up_pt _ _ (by omega)).trans h.u, fun i hi => (up_pt _ _ (by omega)).trans (h.op i hi), fun i hi => (up_pt _ _ (by omega)).trans (h.ar i hi), fun _ _ _ => rfl⟩
theorem m_law {d nS n N : Nat} {tp : Nat → Nat} {M0 : am_M} {Q : Option Value → am_H → Prop} (hT : TT tp n N M0) : ∀ (m j : Nat) (l : Lw) (M : am_M) (z : Value), l.n + m = 17 → LwOk l → l.u ≤ j → LM tp n N j l M0 M → (∀ e M', lwL (kK tp n) (kV tp n) m j l = .error e → FL tp n e M0 M' → Q (some (.int (-1))) (hp nS M')) → (∀ l' j' M', lwL (kK tp n) (kV tp n) m j l = .ok l' → LM tp n N j' l' M0 M' → Q (some (.int (nI l'.n))) (hp nS M')) → am_Wp (d + 9) 204 2 [.ref 205, .int (nI l.n), z] [] (hp nS M) Q := by
  have hte := hT.e
  have hlN := hT.e.l
  intro m
  induction m with
  | zero =>
    intro j l M z hm hl
    have := hl.n16
    omega
  | succ m ih =>
    intro j l M z hm hl hu h hE hO
    have h16 := hl.n16
    have hj := h.jn
    have hk38 := kK_38 tp n j
    have p0 : PM tp n N j (cOf l) M M := ⟨h.a, hj, h.u, h.op, h.ar, fun _ _ _ => rfl⟩
    have r0 : R4 l.w l.f l.h l.t l.n l.n l.n l.n M := ⟨h.w, h.v, h.h, h.t, h.o⟩
    have f0 := h.f
    have hat := h.a.k
    rw [lwL] at hE hO
    clear h
    rw [b_204_2, c_205, am_ans_some, b_204_6]
    by_cases c2 : kK tp n j ≤ 2
    · obtain ⟨e1, e2⟩ := hat.w (by omega)
      have hn37 : ¬ kK tp n j = 37 := by omega
      rw [if_neg hn37, if_neg (fun z => z c2)] at hE hO
      rw [ite0_t ⟨fun z => z e1, by rw [e2, li, lt_n (by omega) (by omega)]; omega, by rw [e2, li, lt_n (by omega) (by omega)]; omega⟩, b_204_9]
      by_cases c16 : l.n = 16
      · rw [if_pos c16] at hE
        rw [if_neg (fun z => z (by rw [c16]; rfl)), b_204_15]
        refine m_err (x := 3) p0 (fun M' hf => ?_)
        rw [am_ans_some, b_204_20]
        exact hE (3, j) M' rfl (FL_m hf f0)
      · rw [if_neg c16] at hE hO
        have hj1 : j + 1 ≤ N := TE_s hte hj hn37
        have a32 : (32 : Int32) + nI l.n = nI (32 + l.n) := adl 32 l.n
        have v32 : vp_in (nI (32 + l.n)) 48 := in_n (by omega) (by omega)
        have c32 : (nI (32 + l.n)).toNatClampNeg = 32 + l.n := cl_n (by omega)
        rw [if_pos (show ¬ nI l.n = 16 by rw [li, eq_n (by omega) (by omega)]; exact c16), b_204_21 (by rw [a32]; exact v32), a32, c32, e2]
        -- the word
        have p1 := PM_up (q := 32 + l.n) (b := 215) p0 (nI (kK tp n j)) (by omega) (by omega)
        have f1 := eL_up (b := 215) (q := 32 + l.n) f0 (nI (kK tp n j)) (by omega) (by omega) (by omega)
        have r1 : R4 (nu l.w l.n (kK tp n j)) l.f l.h l.t (l.n + 1) l.n l.n l.n (am_up M 215 (32 + l.n) (nI (kK tp n j))) := ⟨nu_up r0.1, fun k hk => (up_pt _ _ (by omega)).trans (r0.2.1 k hk), fun k hk => (up_pt _ _ (by omega)).trans (r0.2.2.1 k hk), fun k hk => (up_pt _ _ (by omega)).trans (r0.2.2.2.1 k hk), (up_pt _ _ (by omega)).trans r0.2.2.2.2⟩
        generalize am_up M 215 (32 + l.n) (nI (kK tp n j)) = M1 at p1 f1 r1 ⊢
        refine m_nx (d := d + 5) (TT_f hT f1) p1 hj1 (fun M2 p2 => ?_)
        have r2 := R4_pm r1 p2
        have f2 := eL_pm p2 f1
        have u2 : M2 205 29 = nI l.u := p2.u
        rw [am_ans_none, b_204_40 v32, c32, u2]
        have p3 := PM_up (q := 32 + l.n) (b := 216) p2 (nI l.u) (by omega) (by omega)
        have f3 := eL_up (b := 216) (q := 32 + l.n) f2 (nI l.u) (by omega) (by omega) (by omega)
        have r3 : R4 (nu l.w l.n (kK tp n j)) (nu l.f l.n l.u) l.h l.t (l.n + 1) (l.n + 1) l.n l.n (am_up M2 216 (32 + l.n) (nI l.u)) := ⟨fun k hk => (up_pt _ _ (by omega)).trans (r2.1 k hk), nu_up r2.2.1, fun k hk => (up_pt _ _ (by omega)).trans (r2.2.2.1 k hk), fun k hk => (up_pt _ _ (by omega)).trans (r2.2.2.2.1 k hk), (up_pt _ _ (by omega)).trans r2.2.2.2.2⟩
        generalize am_up M2 216 (32 + l.n) (nI l.u) = M3 at p3 f3 r3 ⊢
        clear r1 p1 r2 p2 u2 f1 f2
        have hc0 : (cOf l).1 ≤ j := hu
        unfold pLn at hE hO
        refine m_sum (d := d + 2) (TT_f hT f3) p3 (Nat.le_succ_of_le hc0) (fun e M' he hf => ?_) (fun q M4 hq p4 => ?_)
        · rw [am_ans_some, b_204_54, if_neg (fun z => z rfl), b_204_58]
          exact hE e M' (by rw [he]) (FL_m hf f3)
        obtain ⟨u1, u2', u3, _⟩ := pSum_ok hte hj1 hq
        have hln : ∀ {r}, pLn (kK tp n) (kV tp n) (j + 1) (cOf l) = .ok r → LN N (j + 1) (cOf l) r := fun hr => pLn_ok hte hj1 hr
        unfold pLn at hln
        rw [hq] at hE hO hln
        have q38 := kK_38 tp n q.1
        have r4 := R4_pm r3 p4
        have f4 := eL_pm p4 f3
        rw [am_ans_some, b_204_54, if_pos m1n, b_204_60 v32, c32, p4.u]
        have p5 := PM_up (q := 32 + l.n) (b := 217) p4 (nI q.2.1) (by omega) (by omega)
        have f5 := eL_up (b := 217) (q := 32 + l.n) f4 (nI q.2.1) (by omega) (by omega) (by omega)
        have r5 : R4 (nu l.w l.n (kK tp n j)) (nu l.f l.n l.u) (nu l.h l.n q.2.1) l.t (l.n + 1) (l.n + 1) (l.n + 1) l.n (am_up M4 217 (32 + l.n) (nI q.2.1)) := ⟨fun k hk => (up_pt _ _ (by omega)).trans (r4.1 k hk), fun k hk => (up_pt _ _ (by omega)).trans (r4.2.1 k hk), nu_up r4.2.2.1, fun k hk => (up_pt _ _ (by omega)).trans (r4.2.2.2.1 k hk), (up_pt _ _ (by omega)).trans r4.2.2.2.2⟩
        generalize am_up M4 217 (32 + l.n) (nI q.2.1) = M5 at p5 f5 r5 ⊢
        clear r3 p3 f3 r4 p4 f4
        have close : ∀ (r : Nat × CS) (M6 : am_M), PM tp n N r.1 r.2 M6 M6 → eL M0 M6 → R4 (nu l.w l.n (kK tp n j)) (nu l.f l.n l.u) (nu l.h l.n q.2.1) l.t (l.n + 1) (l.n + 1) (l.n + 1) l.n M6 → LN N (j + 1) (cOf l) (q.2.1, r) → (∀ e M', (if kK tp n r.1 = 26 then lwL (kK tp n) (kV tp n) m (r.1 + 1) (addL l (kK tp n j) q.2.1 r.2) else .error (1, r.1) : Except (Nat × Nat) Lw) = .error e → FL tp n e M0 M' → Q (some (.int (-1))) (hp nS M')) → (∀ l' j' M', (if kK tp n r.1 = 26 then lwL (kK tp n) (kV tp n) m (r.1 + 1) (addL l (kK tp n j) q.2.1 r.2) else .error (1, r.1) : Except (Nat × Nat) Lw) = .ok l' → LM tp n N j' l' M0 M' → Q (some (.int (nI l'.n))) (hp nS M')) → am_Wp (d + 9) 204 92 [.ref 205, .int (nI l.n), .int (nI (32 + l.n))] [] (hp nS M6) Q := by
          intro r M6 p6 f6 r6 ln hE hO
          have a1 : r.1 ≤ N := ln.a
          have a2 : r.2.1 + (j + 1) ≤ l.u + r.1 := ln.n
          rw [b_204_92 v32, c32, p6.u]
          have p7 := PM_up (q := 32 + l.n) (b := 218) p6 (nI r.2.1) (by omega) (by omega)
          have f7 := eL_up (b := 218) (q := 32 + l.n) f6 (nI r.2.1) (by omega) (by omega) (by omega)
          have r7 : R4 (nu l.w l.n (kK tp n j)) (nu l.f l.n l.u) (nu l.h l.n q.2.1) (nu l.t l.n r.2.1) (l.n + 1) (l.n + 1) (l.n + 1) (l.n + 1) (am_up M6 218 (32 + l.n) (nI r.2.1)) := ⟨fun k hk => (up_pt _ _ (by omega)).trans (r6.1 k hk), fun k hk => (up_pt _ _ (by omega)).trans (r6.2.1 k hk), fun k hk => (up_pt _ _ (by omega)).trans (r6.2.2.1 k hk), nu_up r6.2.2.2.1, (up_pt _ _ (by omega)).trans r6.2.2.2.2⟩
          generalize am_up M6 218 (32 + l.n) (nI r.2.1) = M7 at p7 f7 r7 ⊢
          clear p6 f6 r6
          rw [m_is p7 59 26 0 (by decide) (by decide) (by decide), am_ans_some, b_204_108]
          by_cases c26 : kK tp n r.1 = 26
          · rw [if_pos c26] at hE hO
            have hj2 : r.1 + 1 ≤ N := TE_s hte a1 (by rw [c26]; decide)
            rw [ifn_t c26, b_204_117]
            refine m_nx (d := d + 5) (TT_f hT f7) p7 hj2 (fun M8 p8 => ?_)
            have r8 := R4_pm r7 p8
            rw [am_ans_none, b_204_121, nI_1]
            have hu8 : (addL l (kK tp n j) q.2.1 r.2).u ≤ r.1 + 1 := by show r.2.1 ≤ r.1 + 1; clear p7 p8 r7 r8; omega
            have h400 : r.2.1 ≤ 400 := by clear p7 p8 r7 r8; omega
            exact ih (r.1 + 1) (addL l (kK tp n j) q.2.1 r.2) M8 _ (by show l.n + 1 + m = 17; clear p7 p8 r7 r8; omega) (addL_ok hl c2 (by clear p7 p8 r7 r8; omega) ln h400) hu8 ⟨p8.a, p8.jn, p8.u, p8.op, p8.ar, r8.1, r8.2.1, r8.2.2.1, r8.2.2.2.1, r8.2.2.2.2, eL_pm p8 f7⟩ hE hO
          · rw [if_neg c26] at hE
            rw [ifn_f c26, b_204_111]
            refine m_err (x := 1) p7 (fun M' hf => ?_)
            rw [am_ans_some, b_204_116]
            exact hE (1, r.1) M' rfl (FL_m hf f7)
        have wh : ∀ {Q : Option Value → am_H → Prop}, am_Wp (d + 8) 192 0 [.ref 205, .int 3] [] (hp nS M5) Q = Q (some (.int (bI (decide (kK tp n q.1 = 3))))) (hp nS M5) := fun {Q} => m_isW (w := 3) p5 (by decide)
        rw [wh, am_ans_some, b_204_75]
        by_cases c3 : kK tp n q.1 = 3
        · have hj2 : q.1 + 1 ≤ N := TE_s hte u1 (by rw [c3]; decide)
          have hcq : q.2.1 ≤ q.1 + 1 := by clear p5 r5; have h1 : (cOf l).1 = l.u := rfl; omega
          rw [ifb_t c3, b_204_78]
          refine m_nx (d := d + 5) (TT_f hT f5) p5 hj2 (fun M6 p6 => ?_)
          have r6 := R4_pm r5 p6
          have hE1 : ∀ e M', (match pCh (kK tp n) (pSg (kK tp n) (kV tp n) 9 0) (q.1 + 1) q.2 with | .error e => .error e | .ok r => if kK tp n r.1 = 26 then lwL (kK tp n) (kV tp n) m (r.1 + 1) (addL l (kK tp n j) q.2.1 r.2) else .error (1, r.1) : Except (Nat × Nat) Lw) = .error e → FL tp n e M0 M' → Q (some (.int (-1))) (hp nS M') := by
            intro e M' he hf
            refine hE e M' ?_ hf
            show (match (if kK tp n q.1 = 3 then (match pCh (kK tp n) (pSg (kK tp n) (kV tp n) 9 0) (q.1 + 1) q.2 with | .error e => .error e | .ok r => .ok (q.2.1, r)) else .ok (q.2.1, q) : Except (Nat × Nat) (Nat × (Nat × CS))) with | .error e => .error e | .ok r => if kK tp n r.2.1 = 26 then lwL (kK tp n) (kV tp n) m (r.2.1 + 1) (addL l (kK tp n j) r.1 r.2.2) else .error (1, r.2.1) : Except (Nat × Nat) Lw) = .error e
            rw [if_pos c3, ← he]
            cases pCh (kK tp n) (pSg (kK tp n) (kV tp n) 9 0) (q.1 + 1) q.2 <;> rfl
          have hO1 : ∀ l' j' M', (match pCh (kK tp n) (pSg (kK tp n) (kV tp n) 9 0) (q.1 + 1) q.2 with | .error e => .error e | .ok r => if kK tp n r.1 = 26 then lwL (kK tp n) (kV tp n) m (r.1 + 1) (addL l (kK tp n j) q.2.1 r.2) else .error (1, r.1) : Except (Nat × Nat) Lw) = .ok l' → LM tp n N j' l' M0 M' → Q (some (.int (nI l'.n))) (hp nS M') := by
            intro l' j' M' he hf
            refine hO l' j' M' ?_ hf
            show (match (if kK tp n q.1 = 3 then (match pCh (kK tp n) (pSg (kK tp n) (kV tp n) 9 0) (q.1 + 1) q.2 with | .error e => .error e | .ok r => .ok (q.2.1, r)) else .ok (q.2.1, q) : Except (Nat × Nat) (Nat × (Nat × CS))) with | .error e => .error e | .ok r => if kK tp n r.2.1 = 26 then lwL (kK tp n) (kV tp n) m (r.2.1 + 1) (addL l (kK tp n j) r.1 r.2.2) else .error (1, r.2.1) : Except (Nat × Nat) Lw) = .ok l'
            rw [if_pos c3, ← he]
            cases pCh (kK tp n) (pSg (kK tp n) (kV tp n) 9 0) (q.1 + 1) q.2 <;> rfl
          rw [am_ans_none, b_204_82]
          refine m_any (TT_f hT f5) p6 hcq r6.2.2.2.2 (fun e M' he hf => ?_) (fun r M' hr p7 => ?_)
          · rw [am_ans_some, b_204_86, if_neg (fun z => z rfl), b_204_90]
            exact hE1 e M' (by rw [he]) (FL_m hf f5)
          · rw [hr] at hE1 hO1
            rw [am_ans_some, b_204_86, if_pos m1n]
            exact close r M' (PQ_M p7) (eL_pq p7 f5) (R4_pq r5 p7) (hln (by show (if kK tp n q.1 = 3 then _ else _) = _; rw [if_pos c3, hr])) hE1 hO1
        · rw [ifb_f c3]
          refine close q M5 p5 f5 r5 (hln (by show (if kK tp n q.1 = 3 then _ else _) = _; rw [if_neg c3])) (fun e M' he hf => hE e M' ?_ hf) (fun l' j' M' he hf => hO l' j' M' ?_ hf)
          · show (match (if kK tp n q.1 = 3 then (match pCh (kK tp n) (pSg (kK tp n) (kV tp n) 9 0) (q.1 + 1) q.2 with | .error e => .error e | .ok r => .ok (q.2.1, r)) else .ok (q.2.1, q) : Except (Nat × Nat) (Nat × (Nat × CS))) with | .error e => .error e | .ok r => if kK tp n r.2.1 = 26 then lwL (kK tp n) (kV tp n) m (r.2.1 + 1) (addL l (kK tp n j) r.1 r.2.2) else .error (1, r.2.1) : Except (Nat × Nat) Lw) = .error e
            rw [if_neg c3, ← he]
          · show (match (if kK tp n q.1 = 3 then (match pCh (kK tp n) (pSg (kK tp n) (kV tp n) 9 0) (q.1 + 1) q.2 with | .error e => .error e | .ok r => .ok (q.2.1, r)) else .ok (q.2.1, q) : Except (Nat × Nat) (Nat × (Nat × CS))) with | .error e => .error e | .ok r => if kK tp n r.2.1 = 26 then lwL (kK tp n) (kV tp n) m (r.2.1 + 1) (addL l (kK tp n j) r.1 r.2.2) else .error (1, r.2.1) : Except (Nat × Nat) Lw) = .ok l'
            rw [if_neg c3, ← he]
    · have nl : ¬ (¬ ¬ M 205 18 = 2 ∧ ¬ M 205 19 < 0 ∧ ¬ 2 < M 205 19) := by
        rintro ⟨z1, z2, z3⟩
        by_cases c26 : kK tp n j < 26
        · obtain ⟨e1, e2⟩ := hat.w c26
          rw [e2, li, lt_n (by omega) (by omega)] at z3
          omega
        · refine z1 (fun z => ?_)
          rcases Nat.lt_or_ge (kK tp n j) 36 with c2 | c2
          · rw [(hat.s (by omega) c2).1] at z; exact absurd z (by decide)
          · have : kK tp n j = 36 ∨ kK tp n j = 37 ∨ kK tp n j = 38 := by omega
            rcases this with q | q | q
            · rw [(hat.n q).1] at z; exact absurd z (by decide)
            · rw [hat.e q] at z; exact absurd z (by decide)
            · rw [hat.o q] at z; exact absurd z (by decide)
      rw [ite0_f nl, b_204_128]
      by_cases c37 : kK tp n j = 37
      · rw [if_pos c37] at hO
        rw [if_neg (fun z => z ((k_e hat hk38).mpr c37)), b_204_135, b_204_144]
        exact hO l j M rfl ⟨p0.a, hj, p0.u, p0.op, p0.ar, r0.1, r0.2.1, r0.2.2.1, r0.2.2.2.1, r0.2.2.2.2, f0⟩
      · rw [if_neg c37, if_pos c2] at hE
        rw [if_pos (fun z => c37 ((k_e hat hk38).mp z)), b_204_139]
        refine m_err (x := 1) p0 (fun M' hf => ?_)
        rw [am_ans_some, b_204_144]
        exact hE (1, j) M' rfl (FL_m hf f0)
end
