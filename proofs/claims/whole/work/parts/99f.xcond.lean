section
/-! CONDITIONS, as the program reads them -/
theorem x_takes {d nS n N j k : Nat} {tp : Nat → Nat} {c : CS} {M0 : am_M} {M : am_M} {Q : Option Value → am_H → Prop} (hT : TK tp n N M0) (h : PC tp n N j c M0 M) (hk : k < 37) (hE : kK tp n j ≠ k → ∀ M', FC tp n (1, j) M0 M' → Q (some (.int 0)) (hp nS M')) (hO : kK tp n j = k → ∀ M', PC tp n N (j + 1) c M0 M' → Q (some (.int 1)) (hp nS M')) : am_Wp (d + 1) 59 0 [.ref 187, .int (nI k)] [] (hp nS M) Q := by
  have hte := TE_of hT
  have hkk := PC_k hT h
  have hl := hT.l
  have hj := h.jn
  have hk38 := kK_38 tp n j
  have u9 : am_up M 187 1 (1 : Int32) 187 9 = nI (N + 1) := by rw [up_pt _ _ (by omega)]; exact hkk.t
  have u10 : am_up M 187 1 (1 : Int32) 187 10 = nI j := by rw [up_pt _ _ (by omega)]; exact h.i
  have u1 : am_up M 187 1 (1 : Int32) 201 j = nI (ps tp n j) := by rw [up_ne _ _ _ (by decide)]; exact hkk.p j hj
  have cur : (if M 187 9 ≤ M 187 10 then (37 : Int32) else M 199 (M 187 10).toNatClampNeg) = nI (kK tp n j) := by
    rw [hkk.t, h.i, if_neg (by rw [le_n (by omega) (by omega)]; omega), cl_n (by omega), hkk.k j hj]
  rw [c_59 (fun _ => by rw [h.i]; exact in_n (by omega) (by omega)) (fun _ _ => by rw [u10]; exact in_n (by omega) (by omega)), cur]
  by_cases ck : kK tp n j = k
  · rw [if_pos (by rw [ck])]
    exact hO ck _ (PC_at h (TE_s hte hj (by omega)))
  · rw [if_neg (by rw [eq_n (by omega) (by omega)]; exact ck), u9, u10, if_neg (by rw [le_n (by omega) (by omega)]; omega), cl_n (by omega), u1]
    exact hE ck _ ⟨by rw [up_pt _ _ (by omega), up_same, upd_same]; rfl, by rw [up_same, upd_same], fun a k hk => by rw [up_pt _ _ (by omega), up_pt _ _ (by omega)]; exact PC_f h a k hk⟩
/-- what a piece of reading does, for every end -/
def xWp (e mi : Nat) (as : List Value) (nS : Nat) (tp : Nat → Nat) (n N : Nat) (M0 : am_M) (S : Nat → CS → PR) : Prop := ∀ (j : Nat) (c : CS) (M : am_M) (Q : Option Value → am_H → Prop), c.1 ≤ j → PC tp n N j c M0 M → (∀ e M', S j c = .error e → FC tp n e M0 M' → Q (some (.int 0)) (hp nS M')) → (∀ q M', S j c = .ok q → PC tp n N q.1 q.2 M0 M' → Q (some (.int 1)) (hp nS M')) → am_Wp e mi 0 as [] (hp nS M) Q
theorem x_chL {e nS n N o L : Nat} {tp : Nat → Nat} {M0 : am_M} {S : Nat → CS → PR} {Q : Option Value → am_H → Prop} (hT : TK tp n N M0) (hS : xWp (e + 1) 58 [.ref 187, .int (nI o), .retAddr 0, .retAddr 0] nS tp n N M0 S) (hC : ∀ j c q, j ≤ N → S j c = .ok q → CO N j c L q) : ∀ (m i : Nat) (w : Bool) (j : Nat) (c : CS) (M : am_M) (z4 : Value), i + m = 400 → N < m + j → c.1 + (if w = true then 1 else 0) ≤ j → PC tp n N j c M0 M → (∀ e M', chL (kK tp n) S m w j c = .error e → FC tp n e M0 M' → Q (some (.int 0)) (hp nS M')) → (∀ q M', chL (kK tp n) S m w j c = .ok q → PC tp n N q.1 q.2 M0 M' → Q (some (.int 1)) (hp nS M')) → am_Wp (e + 2) 57 14 [.ref 187, .int (nI o), .int (bI w), .int (nI i), z4] [] (hp nS M) Q := by
  have hte := TE_of hT
  have hl := hT.l
  intro m
  induction m with
  | zero =>
    intro i w j c M z4 hi hN hc h hE hO
    have := h.jn
    omega
  | succ m ih =>
    intro i w j c M z4 hi hN hc h hE hO
    have hj := h.jn
    have hk38 := kK_38 tp n j
    rw [b_57_14, if_neg (by rw [li, le_n (by omega) (by omega)]; omega), b_57_21, x_kd hT h, am_ans_some, b_57_25]
    rw [chL] at hE hO
    generalize hK : kK tp n j = k at *
    by_cases c5 : k = 5
    · rw [if_pos c5] at hE hO
      have hj1 : j + 1 ≤ N := TE_s hte hj (by rw [hK]; omega)
      rw [if_pos (by rw [c5]; rfl), b_57_48, if_pos (by rw [c5]; rfl), b_57_62]
      refine hS (j + 1) c _ _ (by omega) (PC_at h hj1) (fun e M' he hf => ?_) (fun q M' hq hp' => ?_)
      · rw [am_ans_some, b_57_77, if_neg (fun z => z rfl), b_57_80]
        exact hE e M' (by rw [he]) hf
      · have co := hC _ _ _ hj1 hq
        have o1 := co.a
        have o2 := co.b
        have o3 := co.n
        rw [hq] at hE hO
        rw [am_ans_some, b_57_77, if_pos bn1, b_57_82, if_neg (fun z => z (by rw [c5]; rfl)), b_57_88]
        have hb : q.2.1 + (if w = true then 1 else 0) + 1 ≤ q.1 := by omega
        refine x_adds (y := Cd.op 10) hp' (by omega) (by decide) (fun M2 h2 => ?_)
        rw [am_ans_none, b_57_97, b_57_102, nI_1]
        exact ih (i + 1) w q.1 _ M2 _ (by omega) (by omega) (by rw [put_1]; omega) h2 hE hO
    · rw [if_neg c5] at hE hO
      have at48 : ∀ M1, PC tp n N j (if w = true then put c (Cd.op 11) else c) M0 M1 → am_Wp (e + 2) 57 48 [.ref 187, .int (nI o), .int 0, .int (nI i), .int (nI k)] [] (hp nS M1) Q := by
        intro M1 h1
        have f1 : (if w = true then put c (Cd.op 11) else c).1 = c.1 + (if w = true then 1 else 0) := by
          cases w with
          | true => rw [if_pos rfl, if_pos rfl]; rfl
          | false => rw [if_neg (by decide), if_neg (by decide)]; rfl
        rw [b_57_48, if_neg (by rw [li, eq_n (by omega) (by omega)]; exact c5), b_57_54]
        by_cases c4 : k = 4
        · rw [if_pos c4] at hE hO
          have hj1 : j + 1 ≤ N := TE_s hte hj (by rw [hK]; omega)
          rw [if_pos (by rw [c4]; rfl), b_57_62]
          refine hS (j + 1) _ _ _ (by omega) (PC_at h1 hj1) (fun e M' he hf => ?_) (fun q M' hq hp' => ?_)
          · rw [am_ans_some, b_57_77, if_neg (fun z => z rfl), b_57_80]
            exact hE e M' (by rw [he]) hf
          · have co := hC _ _ _ hj1 hq
            have o1 := co.a
            have o2 := co.b
            have o3 := co.n
            rw [hq] at hE hO
            rw [am_ans_some, b_57_77, if_pos bn1, b_57_82, if_pos (show ¬ nI k = 5 by rw [li, eq_n (by omega) (by omega)]; exact c5), b_57_100, b_57_102, nI_1]
            exact ih (i + 1) true q.1 q.2 M' _ (by omega) (by omega) (by rw [if_pos rfl]; omega) hp' hE hO
        · rw [if_neg c4] at hO
          rw [if_neg (by rw [li, eq_n (by omega) (by omega)]; exact c4), b_57_60]
          exact hO (j, if w = true then put c (Cd.op 11) else c) M1 rfl h1
      rw [if_neg (by rw [li, eq_n (by omega) (by omega)]; exact c5), b_57_33]
      cases w with
      | false =>
        rw [if_pos (show bI false = 0 from rfl)]
        exact at48 M h
      | true =>
        have hc2 : c.1 + 1 ≤ j := hc
        rw [if_neg (show ¬ bI true = 0 by decide), b_57_37]
        refine x_adds (y := Cd.op 11) h (by omega) (by decide) (fun M1 h1 => ?_)
        rw [am_ans_none, b_57_46]
        exact at48 M1 h1
theorem x_ch {e nS n N o L : Nat} {tp : Nat → Nat} {M0 : am_M} {S : Nat → CS → PR} (hT : TK tp n N M0) (hS : xWp (e + 1) 58 [.ref 187, .int (nI o), .retAddr 0, .retAddr 0] nS tp n N M0 S) (hC : ∀ j c q, j ≤ N → S j c = .ok q → CO N j c L q) : xWp (e + 2) 57 [.ref 187, .int (nI o), .retAddr 0, .retAddr 0, .retAddr 0] nS tp n N M0 (pCh (kK tp n) S) := by
  intro j c M Q hc h hE hO
  have hj := h.jn
  have hl := hT.l
  rw [b_57_0]
  unfold pCh at hE hO
  refine hS j c _ _ hc h (fun e M' he hf => ?_) (fun q M' hq hp' => ?_)
  · rw [am_ans_some, b_57_7, if_neg (fun z => z rfl), b_57_10]
    exact hE e M' (by rw [he]) hf
  · have co := hC _ _ _ hj hq
    have o1 := co.a
    have o2 := co.b
    have o3 := co.n
    rw [hq] at hE hO
    rw [am_ans_some, b_57_7, if_pos bn1, b_57_12]
    exact x_chL hT hS hC 400 0 false q.1 q.2 M' _ (by omega) (by omega) (by rw [if_neg (by decide)]; omega) hp' hE hO
theorem x_sg {nS n N : Nat} {tp : Nat → Nat} {M0 : am_M} (hT : TK tp n N M0) : ∀ (f o e : Nat), 1 ≤ f → f + o = 9 → 2 * f + 2 ≤ e → xWp e 58 [.ref 187, .int (nI o), .retAddr 0, .retAddr 0] nS tp n N M0 (pSg (kK tp n) (kV tp n) f o) := by
  have hte := TE_of hT
  have hl := hT.l
  intro f
  induction f with
  | zero =>
    intro o e hf
    omega
  | succ f ih =>
    intro o e _ ho he j c M Q hc h hE hO
    obtain ⟨e1, rfl⟩ : ∃ e1, e = e1 + 3 := ⟨e - 3, by omega⟩
    have hj := h.jn
    have hk38 := kK_38 tp n j
    rw [b_58_0, x_kd hT h, am_ans_some, b_58_4]
    rw [pSg] at hE hO
    generalize hK : kK tp n j = k at *
    by_cases c1 : k = 6 ∨ k = 31
    · rw [if_pos c1] at hE hO
      have at17 : am_Wp (e1 + 3) 58 17 [.ref 187, .int (nI o), .int (nI k), .retAddr 0] [] (hp nS M) Q := by
        rw [b_58_17]
        by_cases c8 : 8 ≤ o
        · rw [if_pos c8] at hE
          rw [if_neg (by rw [li, lt_n (by omega) (by omega)]; omega), b_58_23]
          refine x_flt (x := 3) hT h (fun M' hf => ?_)
          rw [am_ans_some, b_58_28 rok0]
          exact hE (3, j) M' rfl hf
        · rw [if_neg c8] at hE hO
          have hj1 : j + 1 ≤ N := TE_s hte hj (by rw [hK]; omega)
          have h1 := PC_at h hj1
          have hsg := ih (o + 1) (e1 + 1) (by omega) (by omega) (by omega)
          rw [if_pos (by rw [li, lt_n (by omega) (by omega)]; omega), b_58_29]
          by_cases c31 : k = 31
          · rw [if_pos c31] at hE hO
            rw [if_neg (fun z => z (by rw [c31]; rfl)), b_58_45, nI_1]
            refine x_ch hT hsg (fun j c q hj h => pSg_ok hte f (o + 1) j c q (by omega) hj h) (j + 1) c _ _ (by omega) h1 (fun e M' he hf => ?_) (fun q M' hq hp' => ?_)
            · rw [am_ans_some, b_58_52, if_pos rfl, b_58_68, b_58_69 rok0]
              exact hE e M' (by rw [he]) hf
            · rw [hq] at hE hO
              rw [am_ans_some, b_58_52, if_neg bn1, b_58_55]
              refine x_takes (k := 32) hT hp' (by omega) (fun hne M2 hf => ?_) (fun heq M2 h2 => ?_)
              · rw [am_ans_some, b_58_61, if_pos rfl, b_58_68, b_58_69 rok0]
                exact hE (1, q.1) M2 (if_neg hne) hf
              · rw [am_ans_some, b_58_61, if_neg bn1, b_58_64, b_58_69 rok1]
                exact hO (q.1 + 1, q.2) M2 (if_pos heq) h2
          · rw [if_neg c31] at hE hO
            rw [if_pos (show ¬ nI k = 31 by rw [li, eq_n (by omega) (by omega)]; exact c31), b_58_70, nI_1]
            have hsg2 := ih (o + 1) (e1 + 2) (by omega) (by omega) (by omega)
            refine hsg2 (j + 1) c _ _ (by omega) h1 (fun e M' he hf => ?_) (fun q M' hq hp' => ?_)
            · rw [am_ans_some, b_58_77, if_neg (fun z => z rfl), b_58_80]
              exact hE e M' (by rw [he]) hf
            · have co := pSg_ok hte f (o + 1) (j + 1) c q (by omega) hj1 hq
              have o1 := co.a
              have o2 := co.b
              have o3 := co.n
              rw [hq] at hE hO
              rw [am_ans_some, b_58_77, if_pos bn1, b_58_82]
              refine x_adds (y := Cd.op 9) hp' (by omega) (by decide) (fun M2 h2 => ?_)
              rw [am_ans_none, b_58_91]
              exact hO (q.1, put q.2 (Cd.op 9)) M2 rfl h2
      by_cases c6 : k = 6
      · rw [if_pos (by rw [c6]; rfl)]; exact at17
      · rw [if_neg (by rw [li, eq_n (by omega) (by omega)]; exact c6), b_58_11, if_neg (fun z => z (by rw [show k = 31 by omega]; rfl))]
        exact at17
    · rw [if_neg c1] at hE hO
      unfold pCmp at hE hO
      rw [if_neg (by rw [li, eq_n (by omega) (by omega)]; omega), b_58_11, if_pos (show ¬ nI k = 31 by rw [li, eq_n (by omega) (by omega)]; omega), b_58_93]
      refine x_sum hT h hc (fun e M' he hf => ?_) (fun q M' hq hp' => ?_)
      · rw [am_ans_some, b_58_97, if_neg (fun z => z rfl), b_58_100]
        exact hE e M' (by rw [he]) hf
      · obtain ⟨u1, u2, u3, _⟩ := pSum_ok hte hj hq
        have q38 := kK_38 tp n q.1
        rw [hq] at hE hO
        rw [am_ans_some, b_58_97, if_pos bn1, b_58_102, x_kd hT hp', am_ans_some, b_58_106]
        have hE : ∀ e M', (if kK tp n q.1 = 33 ∨ kK tp n q.1 = 34 ∨ kK tp n q.1 = 35 then (match pSum (kK tp n) (kV tp n) (q.1 + 1) q.2 with | .error e => .error e | .ok r => .ok (r.1, put r.2 (Cd.op (kK tp n q.1 - 27)))) else .error (1, q.1) : PR) = .error e → FC tp n e M0 M' → Q (some (.int 0)) (hp nS M') := hE
        have hO : ∀ r M', (if kK tp n q.1 = 33 ∨ kK tp n q.1 = 34 ∨ kK tp n q.1 = 35 then (match pSum (kK tp n) (kV tp n) (q.1 + 1) q.2 with | .error e => .error e | .ok r => .ok (r.1, put r.2 (Cd.op (kK tp n q.1 - 27)))) else .error (1, q.1) : PR) = .ok r → PC tp n N r.1 r.2 M0 M' → Q (some (.int 1)) (hp nS M') := hO
        generalize hK2 : kK tp n q.1 = k2 at *
        by_cases c2 : k2 = 33 ∨ k2 = 34 ∨ k2 = 35
        · rw [if_pos c2] at hE hO
          have hj2 : q.1 + 1 ≤ N := TE_s hte u1 (by rw [hK2]; omega)
          have at131 : am_Wp (e1 + 2 + 1) 58 131 [.ref 187, .int (nI o), .int (nI k), .int (nI k2)] [] (hp nS M') Q := by
            rw [b_58_131]
            refine x_sum hT (PC_at hp' hj2) (by omega) (fun e M2 he hf => ?_) (fun r M2 hr h2 => ?_)
            · rw [am_ans_some, b_58_145, if_neg (fun z => z rfl), b_58_148]
              exact hE e M2 (by rw [he]) hf
            · obtain ⟨r1, r2, r3, _⟩ := pSum_ok hte hj2 hr
              rw [hr] at hE hO
              rw [am_ans_some, b_58_145, if_pos bn1, b_58_150]
              have hx : nI k2 ^^^ (-1) = enc (Cd.op (k2 - 27)) := by
                rw [enc_o]
                rcases c2 with rfl | rfl | rfl <;> rfl
              refine x_adds h2 (by omega) hx (fun M3 h3 => ?_)
              rw [am_ans_none, b_58_160]
              exact hO (r.1, put r.2 (Cd.op (k2 - 27))) M3 rfl h3
          by_cases c33 : k2 = 33
          · rw [if_pos (by rw [c33]; rfl)]; exact at131
          · rw [if_neg (by rw [li, eq_n (by omega) (by omega)]; exact c33), b_58_113]
            by_cases c34 : k2 = 34
            · rw [if_pos (by rw [c34]; rfl)]; exact at131
            · rw [if_neg (by rw [li, eq_n (by omega) (by omega)]; exact c34), b_58_119, if_pos (by rw [show k2 = 35 by omega]; rfl)]
              exact at131
        · rw [if_neg c2] at hE
          rw [if_neg (by rw [li, eq_n (by omega) (by omega)]; omega), b_58_113, if_neg (by rw [li, eq_n (by omega) (by omega)]; omega), b_58_119, if_neg (by rw [li, eq_n (by omega) (by omega)]; omega), b_58_125]
          refine x_flt (x := 1) hT hp' (fun M2 hf => ?_)
          rw [am_ans_some, b_58_130 rok0]
          exact hE (1, q.1) M2 rfl hf
end
