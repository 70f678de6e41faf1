section
theorem m_day {d nS : Nat} {M0 : am_M} {x : Cx} {p : Rw × Rw} {l : Lw} {dn : Dn} {tr : Tr} {P : Nat} {th : Bool} {M : am_M} {Q : Option Value → am_H → Prop} (h : KM M0 M p.1 p.2) (hs : Stm M0 l x th) (hD : MDn M0 dn) (hdk : DnOk x dn) (hT : MTr M0 tr) (htk : TrOk x tr) (hO : WOk x P p.1) (hP : P + 98901 * 17 ≤ 2000000000) (hQ : ∀ M', KM M0 M' (dayP l x dn tr th p).1 (dayP l x dn tr th p).2 → Q (some (.int (nI (dy1 l x dn th p).2))) (hp nS M')) : am_Wp (d + 6) 229 0 [.ref 205, .retAddr 0, .retAddr 0] [] (hp nS M) Q := by
  have hL := hs.L6
  have hG := hs.G8
  have hT10 := hs.T10
  have h16 := htk.n16
  have hd16 := hdk.n16
  have f205 : ∀ {M W B} k, KM M0 M W B → M 205 k = M0 205 k := fun k h => by rw [h.fr 205 (by decide) (by decide) (by decide) (by decide)]
  have hle : ∀ j, j ≤ tr.n → trE tr (p.1 0) j ≤ 16 := fun j hj => Nat.le_trans (trE_le tr (p.1 0) j) (by omega)
  have k5 : ∀ m j M, j + m = x.T → KM M0 M (itr (ruS th x) (itr (trS th tr) (dy2 l x dn th p) tr.n) j).1 (itr (ruS th x) (itr (trS th tr) (dy2 l x dn th p) tr.n) j).2 → WOk x (P + 98901 * trE tr (p.1 0) tr.n) (itr (ruS th x) (itr (trS th tr) (dy2 l x dn th p) tr.n) j).1 → am_Wp (d + 6) 229 210 [.ref 205, .int (nI (dy1 l x dn th p).2), .int (nI j)] [] (hp nS M) Q := by
    intro m
    induction m with
    | zero =>
      intro j M hj h hO
      have : j = x.T := by omega
      subst this
      rw [b_229_210, f205 10 h, hs.mx.fT, if_pos (Int32.le_refl _), b_229_268, h.w]
      exact hQ _ (KM_W h 0 _)
    | succ m ih =>
      intro j M hj h hO
      have hn := ih (j + 1)
      rw [itr_s] at hn
      generalize itr (ruS th x) (itr (trS th tr) (dy2 l x dn th p) tr.n) j = u at *
      have ec : ((46 : Int32) + nI j).toNatClampNeg = 46 + j := by rw [adl]; exact cl_n (by omega)
      have hok := ruS_ok hO hG (show j < 10 by omega) th
      have nx : ∀ M', KM M0 M' (ruS th x j u).1 (ruS th x j u).2 → am_Wp (d + 6) 229 262 [.ref 205, .int (nI (dy1 l x dn th p).2), .int (nI j)] [] (hp nS M') Q := by
        intro M' h'
        rw [b_229_262, nI_1]
        exact hn M' (by omega) h' hok
      rw [b_229_210, f205 10 h, hs.mx.fT, if_neg (by rw [le_n (by omega) (by omega)]; omega), b_229_218, c_221 (by rw [adl]; exact in_n (by omega) (by omega)), am_ans_some, b_229_223]
      by_cases c : u.1 (46 + j) = 1
      · have e : ruS th x j u = u := if_neg (fun z => z.1 c)
        rw [e] at nx
        rw [ite1_t (show ¬ ¬ M 206 ((46 : Int32) + nI j).toNatClampNeg = 1 from fun z => z (by rw [ec, h.w]; exact c))]
        exact nx M h
      · rw [ite1_f (show ¬ ¬ ¬ M 206 ((46 : Int32) + nI j).toNatClampNeg = 1 from fun z => z (by rw [ec, h.w]; exact c)), b_229_226, m_broke h hs hO (by omega), am_ans_some, b_229_231]
        by_cases c2 : brkD u.1 x j = true
        · have e : ruS th x j u = nt th 4 (nI j) (u.1 (36 + j)) (upd u.1 (46 + j) 1, u.2) := if_pos ⟨c, c2⟩
          rw [e] at nx
          have h1 := KM_W h (46 + j) 1
          rw [c2, if_pos (by decide), b_229_237 (by rw [adl]; exact in_n (by omega) (by omega)) (by rw [adl]; exact in_n (by omega) (by omega)), adl, adl, cl_n (by omega), cl_n (by omega), h1.w, upd_ne _ _ (by omega)]
          refine m_nt h1 hs ?_ (fun M2 h2 => ?_)
          · obtain ⟨q, q1, q2⟩ := hO.wr
            exact ⟨q, by rw [upd_ne _ _ (by omega)]; exact q1, q2⟩
          · rw [am_ans_none]
            exact nx M2 h2
        · have e : ruS th x j u = u := if_neg (fun z => c2 z.2)
          rw [e] at nx
          rw [Bool.eq_false_iff.mpr c2, if_neg (fun z => z rfl), b_229_234]
          exact nx M h
  have k4 : ∀ m j M, j + m = tr.n → KM M0 M (itr (trS th tr) (dy2 l x dn th p) j).1 (itr (trS th tr) (dy2 l x dn th p) j).2 → WOk x (P + 98901 * trE tr (p.1 0) j) (itr (trS th tr) (dy2 l x dn th p) j).1 → am_Wp (d + 6) 229 133 [.ref 205, .int (nI (dy1 l x dn th p).2), .int (nI (4 * j))] [] (hp nS M) Q := by
    intro m
    induction m with
    | zero =>
      intro j M hj h hO
      have : j = tr.n := by omega
      subst this
      have e4 : (4 : Int32) * nI tr.n = nI (4 * tr.n) := pk_mul 4 tr.n
      rw [b_229_133, f205 39 h, hT.n, e4, if_pos (Int32.le_refl _), b_229_208]
      exact k5 x.T 0 M (by omega) h hO
    | succ m ih =>
      intro j M hj h hO
      have hjn : j < tr.n := by omega
      have e4 : (4 : Int32) * nI tr.n = nI (4 * tr.n) := pk_mul 4 tr.n
      have e0 : (itr (trS th tr) (dy2 l x dn th p) j).1 0 = p.1 0 := by rw [trI_0, dy2_0]
      have hl16 := hle j (by omega)
      have hok := trS_ok hO htk hT10 hG hjn (by omega) th
      rw [e0] at hok
      have hn := ih (j + 1)
      rw [itr_s, trE, Nat.mul_add, ← Nat.add_assoc] at hn
      have hwo := htk.wo j hjn
      have hgd := htk.gd j hjn
      have hmn := htk.mn j hjn
      generalize itr (trS th tr) (dy2 l x dn th p) j = u at *
      have e223 : M 223 = M0 223 := h.fr 223 (by decide) (by decide) (by decide) (by decide)
      have c0 : M 223 (4 * j) = nI (tr.day j) := by rw [e223]; exact hT.day j hjn
      have c1 : M 223 (4 * j + 1) = nI (tr.wo j) := by rw [e223]; exact hT.wo j hjn
      have c2 : M 223 (4 * j + 2) = if tr.bu j = true then nI (tr.mn j) else -nI (tr.mn j) := by rw [e223]; exact hT.mn j hjn
      have c3 : M 223 (4 * j + 3) = nI (tr.gd j) := by rw [e223]; exact hT.gd j hjn
      have a1 : nI (4 * j) + 1 = nI (4 * j + 1) := nI_add _ 1
      have a2 : nI (4 * j) + 2 = nI (4 * j + 2) := nI_add _ 2
      have a3 : nI (4 * j) + 3 = nI (4 * j + 3) := nI_add _ 3
      have a4 : nI (4 * j) + 4 = nI (4 * (j + 1)) := by rw [show 4 * (j + 1) = 4 * j + 4 by omega]; exact nI_add _ 4
      have ec : ((46 : Int32) + nI (tr.wo j)).toNatClampNeg = 46 + tr.wo j := by rw [adl]; exact cl_n (by omega)
      have nx : ∀ M', KM M0 M' (trS th tr j u).1 (trS th tr j u).2 → am_Wp (d + 6) 229 201 [.ref 205, .int (nI (dy1 l x dn th p).2), .int (nI (4 * j))] [] (hp nS M') Q := by
        intro M' h'
        rw [b_229_201, a4]
        exact hn M' (by omega) h' hok
      rw [b_229_133, f205 39 h, hT.n, e4, if_neg (by rw [le_n (by omega) (by omega)]; omega), b_229_143 (by first | exact in_n (by omega) (by omega) | (simp only [li, nI_add, pk_mul]; exact in_n (by omega) (by omega))), cl_n (by omega), c0, h.w]
      by_cases cd : nI (tr.day j) = u.1 0
      · rw [if_neg (fun z => z cd), b_229_158 (by rw [a1]; exact in_n (by omega) (by omega)), a1, cl_n (by omega), c1, c_221 (by rw [adl]; exact in_n (by omega) (by omega)), am_ans_some, b_229_170]
        by_cases c : u.1 (46 + tr.wo j) = 1
        · have e : trS th tr j u = u := if_neg (fun z => z.2 c)
          rw [e] at nx
          rw [ite1_t (show ¬ ¬ M 206 ((46 : Int32) + nI (tr.wo j)).toNatClampNeg = 1 from fun z => z (by rw [ec, h.w]; exact c))]
          exact nx M h
        · have e : trS th tr j u = trP th (tr.wo j) (tr.gd j) (tr.bu j) (tr.mn j) u := if_pos ⟨cd, c⟩
          rw [e] at nx
          rw [ite1_f (show ¬ ¬ ¬ M 206 ((46 : Int32) + nI (tr.wo j)).toNatClampNeg = 1 from fun z => z (by rw [ec, h.w]; exact c)), b_229_173 (by rw [a1]; exact in_n (by omega) (by omega)) (by rw [a3]; exact in_n (by omega) (by omega)) (by rw [a2]; exact in_n (by omega) (by omega)), a1, a2, a3, cl_n (by omega), cl_n (by omega), cl_n (by omega), c1, c2, c3]
          refine m_trade (W := u.1) (B := u.2) h hs hO (by omega) (by omega) hgd (tr.bu j) hmn.1 hmn.2 (fun M' h' => ?_)
          rw [am_ans_none]
          exact nx M' h'
      · have e : trS th tr j u = u := if_neg (fun z => cd z.1)
        rw [e] at nx
        rw [if_pos cd]
        exact nx M h
  have k3 : ∀ m j M, j + m = x.G → KM M0 M (itr (chS l x) (dy1 l x dn th p).1.1 j) (dy1 l x dn th p).1.2 → WOk x P (itr (chS l x) (dy1 l x dn th p).1.1 j) → am_Wp (d + 6) 229 79 [.ref 205, .int (nI (dy1 l x dn th p).2), .int (nI j)] [] (hp nS M) Q := by
    intro m
    induction m with
    | zero =>
      intro j M hj h hO
      have : j = x.G := by omega
      subst this
      rw [b_229_79, f205 9 h, hs.mx.fG, if_pos (Int32.le_refl _), b_229_131]
      exact k4 tr.n 0 M (by omega) h hO
    | succ m ih =>
      intro j M hj h hO
      have hjn : j < x.G := by omega
      have hu := hs.up j (by omega)
      have hok := chS_ok (l := l) hO hjn hG
      have hn := ih (j + 1)
      rw [itr_s] at hn
      generalize itr (chS l x) (dy1 l x dn th p).1.1 j = u at *
      have g224 : M 224 j = nI (x.up j) := by rw [h.fr 224 (by decide) (by decide) (by decide) (by decide)]; exact hs.mx.up j (by omega)
      have nx : ∀ M', KM M0 M' (chS l x j u) (dy1 l x dn th p).1.2 → am_Wp (d + 6) 229 125 [.ref 205, .int (nI (dy1 l x dn th p).2), .int (nI j)] [] (hp nS M') Q := by
        intro M' h'
        rw [b_229_125, nI_1]
        exact hn M' (by omega) h' hok
      have put : (x.up j = 0 ∨ ¬ u (16 + (x.up j - 1)) = 1) → am_Wp (d + 6) 229 111 [.ref 205, .int (nI (dy1 l x dn th p).2), .int (nI j)] [] (hp nS M) Q := by
        intro c
        have ec : chS l x j u = upd u (28 + j) (tel l x u 2 (oU x j) (some j) 0) := if_pos c
        rw [ec] at nx
        rw [b_229_111]
        refine m_asksFor h hs hjn (fun M1 h1 => ?_)
        rw [am_ans_some, adl, b_229_124 (by first | exact in_n (by omega) (by omega) | (simp only [li, nI_add, pk_mul]; exact in_n (by omega) (by omega))), cl_n (by omega)]
        exact nx _ (KM_W h1 (28 + j) _)
      rw [b_229_79, f205 9 h, hs.mx.fG, if_neg (by rw [le_n (by omega) (by omega)]; omega), b_229_87 (by first | exact in_n (by omega) (by omega) | (simp only [li, nI_add, pk_mul]; exact in_n (by omega) (by omega))), cl_n (by omega), g224]
      by_cases c0 : x.up j = 0
      · rw [if_pos (by rw [c0]; rfl)]
        exact put (Or.inl c0)
      · rw [if_neg (nI_ne0 (by omega) (by omega)), b_229_96 (by first | exact in_n (by omega) (by omega) | (simp only [li, nI_add, pk_mul]; exact in_n (by omega) (by omega))), cl_n (by omega), g224, sub1 (by omega), c_222 (by rw [adl]; exact in_n (by omega) (by omega)), am_ans_some, b_229_108]
        have ec : ((16 : Int32) + nI (x.up j - 1)).toNatClampNeg = 16 + (x.up j - 1) := by rw [adl]; exact cl_n (by omega)
        by_cases c : u (16 + (x.up j - 1)) = 1
        · have e : chS l x j u = u := if_neg (fun z => z.elim c0 (fun z => z c))
          rw [e] at nx
          rw [ite1_t (show ¬ ¬ M 206 ((16 : Int32) + nI (x.up j - 1)).toNatClampNeg = 1 from fun z => z (by rw [ec, h.w]; exact c))]
          exact nx M h
        · rw [ite1_f (show ¬ ¬ ¬ M 206 ((16 : Int32) + nI (x.up j - 1)).toNatClampNeg = 1 from fun z => z (by rw [ec, h.w]; exact c))]
          exact put (Or.inr c)
  have k2 : ∀ m i M, i + m = x.L → KM M0 M (itr (sgS l x th) ((itr (dwS dn) p.1 dn.n, p.2), 0) i).1.1 (itr (sgS l x th) ((itr (dwS dn) p.1 dn.n, p.2), 0) i).1.2 → WOk x P (itr (sgS l x th) ((itr (dwS dn) p.1 dn.n, p.2), 0) i).1.1 → am_Wp (d + 6) 229 43 [.ref 205, .int (nI (itr (sgS l x th) ((itr (dwS dn) p.1 dn.n, p.2), 0) i).2), .int (nI i)] [] (hp nS M) Q := by
    intro m
    induction m with
    | zero =>
      intro i M hi h hO
      have : i = x.L := by omega
      subst this
      rw [b_229_43, f205 8 h, hs.mx.fL, if_pos (Int32.le_refl _), b_229_77]
      exact k3 x.G 0 M (by omega) h hO
    | succ m ih =>
      intro i M hi h hO
      have hil : i < x.L := by omega
      have hn := ih (i + 1)
      rw [itr_s] at hn
      have hok := sgS_ok (l := l) hO (show i < 6 by omega) th hG
      generalize itr (sgS l x th) ((itr (dwS dn) p.1 dn.n, p.2), 0) i = u at *
      have ec : ((16 : Int32) + nI i).toNatClampNeg = 16 + i := by rw [adl]; exact cl_n (by omega)
      rw [b_229_43, f205 8 h, hs.mx.fL, if_neg (by rw [le_n (by omega) (by omega)]; omega), b_229_51, c_222 (by rw [adl]; exact in_n (by omega) (by omega)), am_ans_some, b_229_56]
      by_cases c : u.1.1 (16 + i) = 1
      · have e : sgS l x th i u = u := if_pos c
        rw [e] at hn
        rw [ite1_t (show ¬ ¬ M 206 ((16 : Int32) + nI i).toNatClampNeg = 1 from fun z => z (by rw [ec, h.w]; exact c)), b_229_71, nI_1]
        exact hn M (by omega) h hO
      · have e : sgS l x th i u = ((sng l x th i u.1).1, if (sng l x th i u.1).2 = true then u.2 + 1 else u.2) := if_neg c
        rw [e] at hn hok
        rw [ite1_f (show ¬ ¬ ¬ M 206 ((16 : Int32) + nI i).toNatClampNeg = 1 from fun z => z (by rw [ec, h.w]; exact c)), b_229_59]
        refine m_sng (W := u.1.1) (B := u.1.2) h hs hil hO.wr (fun M' h' => ?_)
        rw [am_ans_some, b_229_64]
        cases hf : (sng l x th i u.1).2 with
        | true =>
          rw [hf, if_pos rfl] at hn
          rw [if_neg (show ¬ bI true = 0 by decide), b_229_67, b_229_71, nI_1, nI_1]
          exact hn M' (by omega) h' hok
        | false =>
          rw [hf, if_neg (by decide)] at hn
          rw [if_pos (show bI false = 0 from rfl), b_229_71, nI_1]
          exact hn M' (by omega) h' hok
  have k1 : ∀ m j M, j + m = dn.n → KM M0 M (itr (dwS dn) p.1 j) p.2 → WOk x P (itr (dwS dn) p.1 j) → am_Wp (d + 6) 229 2 [.ref 205, .int (nI (4 * j)), .retAddr 0] [] (hp nS M) Q := by
    intro m
    induction m with
    | zero =>
      intro j M hj h hO
      have : j = dn.n := by omega
      subst this
      have e4 : (4 : Int32) * nI dn.n = nI (4 * dn.n) := pk_mul 4 dn.n
      rw [b_229_2, f205 37 h, hD.n, e4, if_pos (Int32.le_refl _), b_229_39]
      exact k2 x.L 0 M (by omega) h hO
    | succ m ih =>
      intro j M hj h hO
      have hjn : j < dn.n := by omega
      have e4 : (4 : Int32) * nI dn.n = nI (4 * dn.n) := pk_mul 4 dn.n
      have a4 : nI (4 * j) + 4 = nI (4 * (j + 1)) := by rw [show 4 * (j + 1) = 4 * j + 4 by omega]; exact nI_add _ 4
      have hok := dwS_ok hO hdk hjn hL hG
      have hn := ih (j + 1)
      rw [itr_s] at hn
      generalize itr (dwS dn) p.1 j = u at *
      have c0 : M 222 (4 * j) = nI (dn.day j) := by rw [h.fr 222 (by decide) (by decide) (by decide) (by decide)]; exact hD.day j hjn
      have nx : ∀ M', KM M0 M' (dwS dn j u) p.2 → am_Wp (d + 6) 229 32 [.ref 205, .int (nI (4 * j)), .retAddr 0] [] (hp nS M') Q := by
        intro M' h'
        rw [b_229_32, a4]
        exact hn M' (by omega) h' hok
      rw [b_229_2, f205 37 h, hD.n, e4, if_neg (by rw [le_n (by omega) (by omega)]; omega), b_229_12 (by first | exact in_n (by omega) (by omega) | (simp only [li, nI_add, pk_mul]; exact in_n (by omega) (by omega))), cl_n (by omega), c0, h.w]
      by_cases cd : nI (dn.day j) = u 0
      · have e : dwS dn j u = dwD (dn.kd j) (dn.wo j) (dn.mn j) u := if_pos cd
        rw [e] at nx
        rw [if_neg (fun z => z cd), b_229_27]
        refine m_does h hD hdk hL hjn (fun M' h' => ?_)
        rw [am_ans_none]
        exact nx M' h'
      · have e : dwS dn j u = u := if_neg cd
        rw [e] at nx
        rw [if_pos cd]
        exact nx M h
  rw [b_229_0]
  exact k1 dn.n 0 M (by omega) h hO
end
