section
/-! A TEXT THAT THERE IS NOT; NUMBERS -/
theorem p_tx {nS d c : Nat} {Mi M : am_M} {s : St} {x : Int32} (hx : x < 0 ∨ 3 < x) (hR : RO Mi) (hC : CI Mi M s) (hM : MI M s) (hG : GI c s) : prS nS (d + 11) c Mi 135 [.ref 16, .int x, .retAddr 0] 183 [.ref 205, .int x, .retAddr 0] M := by
  unfold prS
  rw [b_135_0]
  refine x_begin (d := d + 1) hR hC hG (fun N M1 tk e0 e10 e1 e2 v0 v1 _ f1 => ?_)
  have hC1 : CI Mi M1 (sR s 0 s.tp 0 (-1)) := CI_R hC e0 (fun k hk => absurd hk (Nat.not_lt_zero k)) e1 e2 (fun a k h1 h2 h3 => f1 a k (fun z => by unfold cT at z; unfold sC at h2; omega))
  have hF : Fc M M1 := fun a ha => funext fun k => f1 a k (fun z => by unfold cT at z; omega)
  have hM1 := MI_fr hM hG hF
  have fin : am_Wp (d + 10) 42 48 [.ref 187, .int x, .ref 18, .retAddr 0, .retAddr 0] [] (hp nS M1) (fun v h1 => am_Wp (d + 11) 135 15 [.ref 16, .int x, .retAddr 0] (am_ans v []) h1 (fun o h => ∃ v M1, o = some (.int v) ∧ h = hp nS M1 ∧ am_Wp (d + 11) 183 0 [.ref 205, .int x, .retAddr 0] [] (hp nS M1) (Kq nS c Mi v))) := by
    rw [b_42_48, am_ans_some, b_135_15, if_neg (fun z => z rfl), b_135_18]
    refine ⟨_, M1, rfl, rfl, ?_⟩
    have nx : ¬ (¬ x < 0 ∧ ¬ 3 < x) := fun z => hx.elim z.1 z.2
    rw [b_183_0, c_171, am_ans_some, b_183_39, if_neg nx, if_pos rfl, b_183_69, if_neg (fun z => z rfl), b_183_79]
    have g : ∀ a k, ¬ (a = 205 ∧ (k = 0 ∨ k = 15 ∨ k = 16 ∨ k = 29 ∨ k = 30 ∨ k = 35 ∨ k = 36)) → am_up (am_up (am_up (am_up (am_up (am_up (am_up M1 205 0 0) 205 35 0) 205 36 (-1)) 205 16 0) 205 29 0) 205 30 0) 205 15 0 a k = M1 a k := fun a k hk => by rw [up_pt _ _ (by omega), up_pt _ _ (by omega), up_pt _ _ (by omega), up_pt _ _ (by omega), up_pt _ _ (by omega), up_pt _ _ (by omega), up_pt _ _ (by omega)]
    refine Kq_mk hC1 (MI_R hM1 hG (by rw [up_same, upd_same]; rfl) (fun k hk => absurd hk (Nat.not_lt_zero k)) ?_ ?_ (fun a k h1 h2 h3 => g a k (fun z => ?_))) (fun a ha => funext fun k => g a k (by omega)) (GI_R hG (Nat.zero_le _) (fun k hk => absurd hk (Nat.not_lt_zero k)))
    · rw [up_pt _ _ (by omega), up_pt _ _ (by omega), up_pt _ _ (by omega), up_pt _ _ (by omega), up_pt _ _ (by omega), up_same, upd_same]
    · rw [up_pt _ _ (by omega), up_pt _ _ (by omega), up_pt _ _ (by omega), up_pt _ _ (by omega), up_same, upd_same]
    · unfold sM at h2; omega
  by_cases c0 : x < 0
  · rw [if_pos c0]; exact fin
  · have c4 : ¬ x < 4 := fun z => by
      have h3 := hx.resolve_left c0
      rw [Int32.lt_iff_toInt_lt] at z h3
      have t3 : (3 : Int32).toInt = 3 := rfl
      have t4 : (4 : Int32).toInt = 4 := rfl
      omega
    rw [if_neg c0, b_42_43, if_neg c4]; exact fin
/-- a number of token j, from lo up to below hx -/
def pN (K V : Nat → Nat) (j lo hx : Nat) : Except (Nat × Nat) Nat := if K j = 36 then (if lo ≤ V j ∧ V j < hx then .ok (V j) else .error (2, j)) else .error (1, j)
theorem pN_ok {K V : Nat → Nat} {j lo hx v : Nat} (h : pN K V j lo hx = .ok v) : K j = 36 ∧ lo ≤ v ∧ v < hx := by
  unfold pN at h
  by_cases c : K j = 36
  · rw [if_pos c] at h
    by_cases c2 : lo ≤ V j ∧ V j < hx
    · rw [if_pos c2] at h; cases h; exact ⟨c, c2⟩
    · rw [if_neg c2] at h; cases h
  · rw [if_neg c] at h; cases h
theorem le_m1 {v x : Nat} (hv : v < 2147483648) (hx : x < 2147483648) : (nI v ≤ nI x - 1) = (v < x) := by
  cases x with
  | zero =>
    refine propext ⟨fun z => ?_, fun z => absurd z (Nat.not_lt_zero v)⟩
    have h0 : nI v < 0 := by
      rw [Int32.lt_iff_toInt_lt]
      rw [Int32.le_iff_toInt_le] at z
      have t0 : (0 : Int32).toInt = 0 := rfl
      have t1 : (nI 0 - 1).toInt = -1 := rfl
      omega
    rw [li, lt_n hv (by omega)] at h0
    omega
  | succ x => rw [sub1 (by omega), show x + 1 - 1 = x by omega, le_n hv (by omega)]; exact propext ⟨fun z => by omega, fun z => by omega⟩
theorem x_numF {d nS n N j lo hx : Nat} {tp : Nat → Nat} {c : CS} {M0 : am_M} {x1 x2 : Int32} {M : am_M} {Q : Option Value → am_H → Prop} (h1 : x1 = nI lo) (h2 : x2 = nI hx - 1) (hlo : lo ≤ 1000) (hhx : hx ≤ 1000) (hT : TK tp n N M0) (h : PC tp n N j c M0 M) (hE : ∀ e M', pN (kK tp n) (kV tp n) j lo hx = .error e → FC tp n e M0 M' → M' 196 = M 196 → Q (some (.int (-1))) (hp nS M')) (hO : ∀ v M', pN (kK tp n) (kV tp n) j lo hx = .ok v → PC tp n N (j + 1) c M0 M' → Q (some (.int (nI v))) (hp nS M')) : am_Wp (d + 1) 61 0 [.ref 187, .int x1, .int x2, .retAddr 0] [] (hp nS M) Q := by
  subst h1 h2
  have hte := TE_of hT
  have hkk := PC_k hT h
  have hl := hT.l
  have hj := h.jn
  have hk38 := kK_38 tp n j
  have v10 : vp_in (M 187 10) 401 := by rw [h.i]; exact in_n (by omega) (by omega)
  have u9 : ∀ x : Int32, am_up M 187 1 x 187 9 = nI (N + 1) := fun x => by rw [up_pt _ _ (by omega)]; exact hkk.t
  have u10 : ∀ x : Int32, am_up M 187 1 x 187 10 = nI j := fun x => by rw [up_pt _ _ (by omega)]; exact h.i
  have u1 : ∀ x : Int32, am_up M 187 1 x 201 j = nI (ps tp n j) := fun x => by rw [up_ne _ _ _ (by decide)]; exact hkk.p j hj
  have cj : (nI j).toNatClampNeg = j := cl_n (by omega)
  have nle : ¬ nI (N + 1) ≤ nI j := by rw [le_n (by omega) (by omega)]; omega
  have cur : (if M 187 9 ≤ M 187 10 then (37 : Int32) else M 199 (M 187 10).toNatClampNeg) = nI (kK tp n j) := by
    rw [hkk.t, h.i, if_neg nle, cj, hkk.k j hj]
  have bad : ∀ x : Nat, FC tp n (x, j) M0 (am_up (am_up M 187 1 (nI x)) 187 2 (nI (ps tp n j))) := fun x => ⟨by rw [up_pt _ _ (by omega), up_same, upd_same], by rw [up_same, upd_same], fun a k hk => by rw [up_pt _ _ (by omega), up_pt _ _ (by omega)]; exact PC_f h a k hk⟩
  have b196 : ∀ x y : Int32, am_up (am_up M 187 1 x) 187 2 y 196 = M 196 := fun x y => by rw [up_ne _ _ _ (by decide), up_ne _ _ _ (by decide)]
  have i1 : (1 : Int32) = nI 1 := rfl
  have i2 : (2 : Int32) = nI 2 := rfl
  have vv : ∀ x : Int32, vp_in (am_up M 187 1 x 187 10) 401 := fun x => by rw [u10]; exact in_n (by omega) (by omega)
  rw [c_61 (fun _ => v10) (fun _ => v10) (fun _ _ _ => vv _) (fun _ _ _ _ => vv _) (fun _ _ => vv _), cur]
  unfold pN at hE hO
  by_cases c36 : kK tp n j = 36
  · have hv := kV_le c36
    have ev : M 200 (M 187 10).toNatClampNeg = nI (kV tp n j) := by rw [h.i, cj]; exact hkk.v j hj c36
    rw [if_pos c36] at hE hO
    rw [if_pos (by rw [c36]; rfl), ev, u9, u10, if_neg nle, cj, u1]
    by_cases c1 : lo ≤ kV tp n j
    · rw [if_neg (by rw [lt_n (by omega) (by omega)]; omega)]
      by_cases c2 : kV tp n j < hx
      · rw [if_pos ⟨c1, c2⟩] at hO
        rw [if_pos (by rw [le_m1 (by omega) (by omega)]; exact c2)]
        exact hO _ _ rfl (PC_at h (TE_s hte hj (by omega)))
      · rw [if_neg (fun z => c2 z.2)] at hE
        rw [if_neg (by rw [le_m1 (by omega) (by omega)]; exact c2), i2]
        exact hE _ _ rfl (bad 2) (b196 _ _)
    · rw [if_neg (fun z => c1 z.1)] at hE
      rw [if_pos (by rw [lt_n (by omega) (by omega)]; omega), i2]
      exact hE _ _ rfl (bad 2) (b196 _ _)
  · rw [if_neg c36] at hE
    rw [if_neg (by rw [li, eq_n (by omega) (by omega)]; exact c36), u9, u10, if_neg nle, cj, u1, i1]
    exact hE _ _ rfl (bad 1) (b196 _ _)
theorem x_num {d nS n N j lo hx : Nat} {tp : Nat → Nat} {c : CS} {M0 : am_M} {x1 x2 : Int32} {M : am_M} {Q : Option Value → am_H → Prop} (h1 : x1 = nI lo) (h2 : x2 = nI hx - 1) (hlo : lo ≤ 1000) (hhx : hx ≤ 1000) (hT : TK tp n N M0) (h : PC tp n N j c M0 M) (hE : ∀ e M', pN (kK tp n) (kV tp n) j lo hx = .error e → FC tp n e M0 M' → Q (some (.int (-1))) (hp nS M')) (hO : ∀ v M', pN (kK tp n) (kV tp n) j lo hx = .ok v → PC tp n N (j + 1) c M0 M' → Q (some (.int (nI v))) (hp nS M')) : am_Wp (d + 1) 61 0 [.ref 187, .int x1, .int x2, .retAddr 0] [] (hp nS M) Q := x_numF h1 h2 hlo hhx hT h (fun e M' he hf _ => hE e M' he hf) hO
theorem m_num {d nS n N j lo hx : Nat} {tp : Nat → Nat} {c : CS} {M0 : am_M} {x1 x2 : Int32} {M : am_M} {Q : Option Value → am_H → Prop} (h1 : x1 = nI lo) (h2 : x2 = nI hx - 1) (hlo : lo ≤ 1000) (hhx : hx ≤ 1000) (hT : TT tp n N M0) (h : PM tp n N j c M0 M) (hE : ∀ e M', pN (kK tp n) (kV tp n) j lo hx = .error e → FM tp n e M0 M' → Q (some (.int (-1))) (hp nS M')) (hO : ∀ v M', pN (kK tp n) (kV tp n) j lo hx = .ok v → PM tp n N (j + 1) c M0 M' → Q (some (.int (nI v))) (hp nS M')) : am_Wp (d + 4) 196 0 [.ref 205, .int x1, .int x2, .retAddr 0] [] (hp nS M) Q := by
  subst h1 h2
  have hte := hT.e
  have hj := h.jn
  have hk38 := kK_38 tp n j
  have hat := h.a.k
  unfold pN at hE hO
  rw [b_196_0]
  by_cases c36 : kK tp n j = 36
  · have hv := kV_le c36
    have e2 : M 205 19 = nI (kV tp n j) := (hat.n c36).2
    rw [if_pos c36] at hE hO
    rw [if_pos ((k_n hat hk38).mpr c36), b_196_14, c_171, am_ans_some, b_196_24, e2]
    by_cases c2 : lo ≤ kV tp n j ∧ kV tp n j < hx
    · rw [if_pos c2] at hO
      have q1 : ¬ nI (kV tp n j) < nI lo := by rw [lt_n (by omega) (by omega)]; omega
      have q2 : ¬ nI hx - 1 < nI (kV tp n j) := Int32.not_lt.mpr (by rw [le_m1 (by omega) (by omega)]; exact c2.2)
      rw [if_pos (show ¬ nI (kV tp n j) < nI lo ∧ ¬ nI hx - 1 < nI (kV tp n j) from ⟨q1, q2⟩), if_pos (show ¬ (1 : Int32) = 0 by decide), b_196_33, e2]
      refine m_nx (d := d) hT h (TE_s hte hj (by omega)) (fun M' h' => ?_)
      rw [am_ans_none, b_196_42]
      exact hO _ _ rfl h'
    · rw [if_neg c2] at hE
      have q : ¬ (¬ nI (kV tp n j) < nI lo ∧ ¬ nI hx - 1 < nI (kV tp n j)) := fun z => c2 ⟨by have z1 := z.1; rw [lt_n (by omega) (by omega)] at z1; omega, by have z2 := Int32.not_lt.mp z.2; rw [le_m1 (by omega) (by omega)] at z2; exact z2⟩
      rw [if_neg q, if_neg (fun z => z rfl), b_196_27]
      refine m_err (x := 2) h (fun M' hf => ?_)
      rw [am_ans_some, b_196_32]
      exact hE _ _ rfl hf
  · rw [if_neg c36] at hE
    rw [if_neg (fun z => c36 ((k_n hat hk38).mp z)), b_196_8]
    refine m_err (x := 1) h (fun M' hf => ?_)
    rw [am_ans_some, b_196_13]
    exact hE _ _ rfl hf
/-- a word that is there, then a number -/
theorem m_wnum {d nS n N j w lo hx : Nat} {tp : Nat → Nat} {c : CS} {M0 : am_M} {x0 x1 x2 : Int32} {M : am_M} {Q : Option Value → am_H → Prop} (h0 : x0 = nI w) (h1 : x1 = nI lo) (h2 : x2 = nI hx - 1) (hw : w < 26) (hlo : lo ≤ 1000) (hhx : hx ≤ 1000) (hT : TT tp n N M0) (h : PM tp n N j c M0 M) (hN : kK tp n j ≠ w → ∀ M', FM tp n (1, j) M0 M' → Q (some (.int (-1))) (hp nS M')) (hE : kK tp n j = w → ∀ e M', pN (kK tp n) (kV tp n) (j + 1) lo hx = .error e → FM tp n e M0 M' → Q (some (.int (-1))) (hp nS M')) (hO : kK tp n j = w → ∀ v M', pN (kK tp n) (kV tp n) (j + 1) lo hx = .ok v → PM tp n N (j + 2) c M0 M' → Q (some (.int (nI v))) (hp nS M')) : am_Wp (d + 5) 195 0 [.ref 205, .int x0, .int x1, .int x2] [] (hp nS M) Q := by
  subst h0
  rw [b_195_0, m_isW h hw, am_ans_some, b_195_5]
  by_cases cw : kK tp n j = w
  · rw [ifn_t cw, b_195_14]
    refine m_nx (d := d + 1) hT h (TE_s hT.e h.jn (by omega)) (fun M1 p1 => ?_)
    rw [am_ans_none, b_195_18]
    refine m_num (d := d) h1 h2 hlo hhx hT p1 (fun e M' he hf => ?_) (fun v M' hv p2 => ?_)
    · rw [am_ans_some, b_195_24]; exact hE cw e M' he hf
    · rw [am_ans_some, b_195_24]; exact hO cw v M' hv p2
  · rw [ifn_f cw, b_195_8]
    refine m_err (x := 1) h (fun M' hf => ?_)
    rw [am_ans_some, b_195_13]
    exact hN cw M' hf
/-- the end of a line -/
theorem m_semi {d nS n N j : Nat} {tp : Nat → Nat} {c : CS} {M0 : am_M} {M : am_M} {Q : Option Value → am_H → Prop} (hT : TT tp n N M0) (h : PM tp n N j c M0 M) (hE : kK tp n j ≠ 26 → ∀ M', FM tp n (1, j) M0 M' → Q (some (.int (-1))) (hp nS M')) (hO : kK tp n j = 26 → ∀ M', PM tp n N (j + 1) c M0 M' → Q (some (.int 0)) (hp nS M')) : am_Wp (d + 4) 198 0 [.ref 205, .int 59] [] (hp nS M) Q := by
  rw [b_198_0, m_is h 59 26 0 (by decide) (by decide) (by decide), am_ans_some, b_198_5]
  by_cases cw : kK tp n j = 26
  · rw [ifn_t cw, b_198_14]
    refine m_nx (d := d) hT h (TE_s hT.e h.jn (by omega)) (fun M1 p1 => ?_)
    rw [am_ans_none, b_198_18]
    exact hO cw M1 p1
  · rw [ifn_f cw, b_198_8]
    refine m_err (x := 1) h (fun M' hf => ?_)
    rw [am_ans_some, b_198_13]
    exact hE cw M' hf
end
