/-! A RUN: the calls, and the whole -/
section AMD
variable {g : am_G} {p : Program} {l : Launch} {e : Env} {R : Room} {s : State} {m : MethodId} {args : Array Value} {below : List Frame} {meth : Method} {c : Code} {H : Heap} {locs : List Loc} {cells slots : Nat} {Q : State → Prop} {mi pc : Nat} {L st : List Value} {ls : Array Slot} {h : am_H}
set_option maxHeartbeats 4000000 in
theorem am_call_ok {n d mj kd j : Nat} {i : Instr} {as r : List Value} {v : Option Value} {h1 : am_H} (ih : am_Snd g l n) (hX : am_Fx p s m args meth c mi) (hC : am_Cx g s) (hI : am_Inv g h H) (hl : ∀ z ∈ locs, (gH g).size ≤ z.base) (hL : am_L g ls (am_me mi).2.2.1 L)
    (hd : decode (am_me mi).2.1 pc = .ok (i, 3)) (hlk : am_lnk (am_me mi).1 pc (i, 3, kd, mj, j) = true) (hkd : am_kind i = 3) (h5 : kd ≠ 5) (h6 : kd ≠ 6) (ht : am_take (am_me mj).2.2.2.2.1 st = some (as, r))
    (hrec : kd = 0 → am_rec mj as h = true) (hisR : (kd = 2 ∨ kd = 4) → am_isR as = true) (hr : am_ex n d mj 0 (am_ent mj as) [] h = some (v, h1)) (hfr : d + 1 ≤ R.frames) (hlo : 64 * (d + 1) ≤ R.locals) (hcells : cells + (h1.1 - h.1) ≤ R.cells) (hslots : slots + (h1.2.1 - h.2.1) ≤ R.slots)
    (kk : ∀ (H1 : Heap) (locs1 : List Loc), am_Inv g h1 H1 → (∀ z ∈ locs1, (gH g).size ≤ z.base) → W p l e R s m args below meth c H1 locs1 (cells + (h1.1 - h.1)) (slots + (h1.2.1 - h.2.1)) Q (F0 m (pc + 3) ls (v.toList ++ r.map (am_v g)))) :
    W p l e R s m args below meth c H locs cells slots Q (F0 m pc ls (st.map (am_v g))) := by
  obtain ⟨hx, hb, hml, hown, hrt, hlk2, hin, hts⟩ := hX
  unfold am_take at ht
  split at ht
  case isFalse => cases ht
  case isTrue htk =>
    cases ht
    obtain ⟨ht1, ht2, ht3⟩ := htk
    have hone : (st.take (am_me mj).2.2.2.2.1).reverse.all am_one = true := by rw [List.all_reverse]; exact ht3
    have hst : st.map (am_v g) = ((st.take (am_me mj).2.2.2.2.1).reverse.map (am_v g)).reverse ++ (st.drop (am_me mj).2.2.2.2.1).map (am_v g) := by
      rw [List.map_reverse, List.reverse_reverse, ← List.map_append, List.take_append_drop]
    have hlen0 : (st.take (am_me mj).2.2.2.2.1).reverse.length = (am_me mj).2.2.2.2.1 := by rw [List.length_reverse, List.length_take]; omega
    generalize (st.take (am_me mj).2.2.2.2.1).reverse = as at *
    generalize st.drop (am_me mj).2.2.2.2.1 = r at *
    rw [hst]
    have hF := hC.F
    have hsum : ((r.map (am_v g)).map fun v => v.category).sum ≤ 8 := by rw [am_sum_v hF]; exact ht2
    have hcl : ∃ i9, am_lkC (am_me mi).1.cls i9 j kd mj = true ∧ ((kd = 0 ∧ i = .invokevirtual i9) ∨ ((kd = 1 ∨ kd = 3) ∧ i = .invokestatic i9) ∨ ((kd = 2 ∨ kd = 4) ∧ i = .invokespecial i9)) := by
      cases i <;> first
        | (simp only [am_kind] at hkd; exact absurd hkd (by decide))
        | skip
      · rename_i i9
        simp only [am_lnk, Bool.and_eq_true, Bool.or_eq_true, beq_iff_eq] at hlk
        refine ⟨i9, hlk.2, Or.inr (Or.inr ⟨?_, rfl⟩)⟩
        rcases hlk.1 with (z | z) | z
        · exact Or.inl z
        · exact Or.inr z
        · exact absurd z h5
      · rename_i i9
        simp only [am_lnk, Bool.and_eq_true, Bool.or_eq_true, beq_iff_eq] at hlk
        refine ⟨i9, hlk.2, Or.inr (Or.inl ⟨?_, rfl⟩)⟩
        rcases hlk.1 with (z | z) | z
        · exact Or.inl z
        · exact Or.inr z
        · exact absurd z h6
      · rename_i i9
        simp only [am_lnk, Bool.and_eq_true, beq_iff_eq] at hlk
        exact ⟨i9, hlk.2, Or.inl ⟨hlk.1, rfl⟩⟩
    obtain ⟨i9, hlkc, hkinds⟩ := hcl
    obtain ⟨q, hq, e1, e2, e3, e4, hclw⟩ := am_lkC_in hlkc
    have hS : CallFix p m c (am_me mi).2.1 (am_me mi).2.2.1 s args am_tb (am_me mi).1.cls := ⟨hx, hb, hml, hown, hts⟩
    have hmj : 1 ≤ mj ∧ mj < 313 := by
      unfold am_clw at hclw
      rw [e3, e4] at hclw
      rcases hkinds with ⟨z, -⟩ | ⟨z | z, -⟩ | ⟨z | z, -⟩ <;> subst z <;> simp only [Bool.and_eq_true, decide_eq_true_eq] at hclw <;> exact ⟨hclw.1.2, hclw.2⟩
    obtain ⟨w1, w2, w3, w4, w5, w6, w7⟩ := am_mew_s hmj.1 hmj.2
    have hM := am_met ih hmj.1 hmj.2 (am_pl hmj.1 hmj.2) hone (by rw [hlen0]; exact w7) hF hr
    have hG : GoodIn am_tb (Cond.code (am_me mj).1 (am_me mj).2.1 (am_me mj).2.2.1 (am_me mj).2.2.2.1 :: am_tb) := fun w hw => by
      rcases List.mem_cons.mp hw with rfl | hw
      · exact am_tb_good _ (am_cw_in mj hmj.1 hmj.2)
      · exact am_tb_good w hw
    have hR : (({ frames := d, cells := h1.1 - h.1, slots := h1.2.1 - h.2.1, locals := 64 * d } : Room)).frames + 1 ≤ R.frames ∧ 8 + ((am_me mj).2.2.1 + 11) + (({ frames := d, cells := h1.1 - h.1, slots := h1.2.1 - h.2.1, locals := 64 * d } : Room)).locals ≤ R.locals := ⟨hfr, by show 8 + _ + 64 * d ≤ _; omega⟩
    have hroom : 2 * (F0 m pc ls ((as.map (am_v g)).reverse ++ r.map (am_v g))).monitorRoom + ((r.map (am_v g)).map fun v => v.category).sum ≤ 8 := by show 2 * 0 + _ ≤ 8; omega
    have hpre : ∀ U : State, U.heap = H → s.WarmedH U.vm → (as.map (am_v g)).toArray = (as.map (am_v g)).toArray ∧ am_Inv g h U.heap ∧ am_Cx g U := fun U hU hW => ⟨rfl, by rw [hU]; exact hI, hC.warm hW⟩
    unfold am_clw at hclw
    rw [e1, e2, e3, e4] at hclw
    rcases hkinds with ⟨z, rfl⟩ | ⟨z, rfl⟩ | ⟨z, rfl⟩
    · subst z
      simp only [Bool.and_eq_true, beq_iff_eq, bne_iff_ne] at hclw
      obtain ⟨⟨⟨⟨c1, c2⟩, c3⟩, -⟩, -⟩ := hclw
      obtain ⟨a, as', rfl, h8, hcell⟩ := am_recv hC hI (hrec rfl)
      have hw3 := w3 c2
      have hpar := am_par (k := 1) (n := as'.length) (y := (am_me mj).1) (by rw [c2] at w5; rw [← hlen0] at w5; exact w5)
      refine am_behind (va_runV (As := as'.map (am_v g)) (b := am_ad g a) (rest := r.map (am_v g)) (n := as'.length) hS hM (cwV as'.length hts (fun w hw => ?_) rfl rfl rfl ⟨rfl, w4.1, w4.2, hpar⟩ hR) ⟨am_blind, hcell, fun U hU hW => ?_⟩ rfl (by simp) hL.1 ?_ hroom hd ⟨hcells, hslots⟩) hl kk
      · unfold wsV at hw
        rcases List.mem_append.mp hw with hw | hw
        · simp only [List.mem_cons, List.not_mem_nil, or_false] at hw
          rcases hw with rfl | rfl | rfl | rfl
          · exact am_tb_good _ (am_okw_in c1)
          · exact am_tb_good _ hw3.1
          · exact am_tb_good _ (hw3.2.2 c3)
          · exact am_tb_good _ w1
        · exact hG w hw
      · have := hpre U hU hW
        rw [List.map_cons, am_v_ref h8] at this
        exact ⟨by rw [List.map_cons, am_v_ref h8], this.2⟩
      · show (((Value.ref a :: as').map (am_v g)).reverse ++ r.map (am_v g)) = _
        rw [List.map_cons, am_v_ref h8, List.reverse_cons, List.append_assoc]
        rfl
    · have hst9 : (am_me mj).2.2.2.2.2.1 = 1 := by
        rcases z with z | z <;> subst z <;> simp only [Bool.and_eq_true, beq_iff_eq] at hclw <;> exact hclw.1.1.2
      have hpar : (parseMethodDescriptor (am_me mj).1.desc).map (fun d => d.parameters.length) = some as.length := am_par (k := 0) (by rw [hst9] at w5; rw [← hlen0] at w5; exact w5)
      have hw2 := w2 hst9
      rcases z with z | z <;> subst z
      · simp only [Bool.and_eq_true] at hclw
        have hlnk := am_okw_in hclw.1.1.1
        refine am_behind (va_runS (As := as.map (am_v g)) (rest := r.map (am_v g)) (n := as.length) hS hM (va_cwS as.length hts (fun w hw => ?_) rfl rfl rfl ⟨w4.1, w4.2, hpar⟩ hR) ⟨am_blind, hpre⟩ rfl (by simp) hL.1 rfl hroom hd ⟨hcells, hslots⟩) hl kk
        unfold va_wsS at hw
        rcases List.mem_append.mp hw with hw | hw
        · simp only [List.mem_cons, List.not_mem_nil, or_false] at hw
          rcases hw with rfl | rfl | rfl
          · exact am_tb_good _ hlnk
          · exact am_tb_good _ hw2
          · exact am_tb_good _ w1
        · exact hG w hw
      · have hnw := hC.2.1 q hq (Or.inl e3)
        rw [e1, e2, e4] at hnw
        exact am_behind (va_runSN (As := as.map (am_v g)) (rest := r.map (am_v g)) (n := as.length) hS hM ⟨va_cnB as.length hts hG rfl rfl rfl hnw (hts _ w1) ⟨w4.1, w4.2, hpar⟩ hR, hts _ hw2, trivial⟩ ⟨am_blind, hpre⟩ rfl (by simp) hL.1 rfl hroom hd ⟨hcells, hslots⟩) hl kk
    · have hst9 : (am_me mj).2.2.2.2.2.1 = 0 ∧ (am_me mj).1.name = "<init>" := by
        rcases z with z | z <;> subst z <;> simp only [Bool.and_eq_true, beq_iff_eq] at hclw <;> exact ⟨hclw.1.1.1.2, hclw.1.1.2⟩
      have hw3 := w3 hst9.1
      have hret := hw3.2.1 hst9.2
      obtain ⟨a, as', rfl, h8⟩ : ∃ (a : Nat) (as' : List Value), as = .ref a :: as' ∧ a ≠ 8 := by
        have := hisR z
        unfold am_isR at this
        split at this
        · rename_i a as'
          exact ⟨a, as', rfl, by simpa using this⟩
        · cases this
      have hpar := am_par (k := 1) (n := as'.length) (y := (am_me mj).1) (by rw [hst9.1] at w5; rw [← hlen0] at w5; exact w5)
      rw [hret] at hM hG
      have hpre' : ∀ U : State, U.heap = H → s.WarmedH U.vm → (Value.ref (am_ad g a) :: as'.map (am_v g)).toArray = ((Value.ref a :: as').map (am_v g)).toArray ∧ am_Inv g h U.heap ∧ am_Cx g U := fun U hU hW => ⟨by rw [List.map_cons, am_v_ref h8], (hpre U hU hW).2⟩
      have hstk : (((Value.ref a :: as').map (am_v g)).reverse ++ r.map (am_v g)) = (as'.map (am_v g)).reverse ++ .ref (am_ad g a) :: r.map (am_v g) := by
        rw [List.map_cons, am_v_ref h8, List.reverse_cons, List.append_assoc]
        rfl
      rcases z with z | z <;> subst z
      · simp only [Bool.and_eq_true] at hclw
        have hlnk := am_okw_in hclw.1.1.1.1
        exact am_behind (va_runI (As := as'.map (am_v g)) (b := am_ad g a) (rest := r.map (am_v g)) (n := as'.length) hS hM (cwI as'.length hts hG rfl rfl rfl (hts _ w1) (hts _ hlnk) (hts _ hw3.1) hst9.2 ⟨w4.1, w4.2, hpar⟩ hR) ⟨am_blind, hpre'⟩ rfl (by simp) hL.1 hstk hroom hd ⟨hcells, hslots⟩) hl kk
      · have hnw := hC.2.1 q hq (Or.inr e3)
        rw [e1, e2, e4] at hnw
        exact am_behind (va_runIN (As := as'.map (am_v g)) (b := am_ad g a) (rest := r.map (am_v g)) (n := as'.length) hS hM ⟨va_cnB as'.length hts hG rfl rfl rfl hnw (hts _ w1) ⟨w4.1, w4.2, hpar⟩ hR, hst9.2, hts _ hw3.1⟩ ⟨am_blind, hpre'⟩ rfl (by simp) hL.1 hstk hroom hd ⟨hcells, hslots⟩) hl kk
end AMD
