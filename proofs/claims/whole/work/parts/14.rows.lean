/-! ONE INSTRUCTION: rows -/
section AMR
variable {g : am_G} {p : Program} {l : Launch} {e : Env} {R : Room} {s : State} {m : MethodId} {args : Array Value} {below : List Frame} {meth : Method} {c : Code} {H : Heap} {locs : List Loc} {cells slots : Nat} {Q : State → Prop} {mi pc : Nat} {L st : List Value} {ls : Array Slot} {h : am_H}
theorem am_locs1 {a i : Nat} (hl : ∀ z ∈ locs, (gH g).size ≤ z.base) (ha : 16 ≤ a) : ∀ z ∈ locs ++ [(⟨am_ad g a, i⟩ : Loc)], (gH g).size ≤ z.base := fun z hz => by
  rcases List.mem_append.mp hz with hz | hz
  · exact hl z hz
  · rw [List.mem_singleton.mp hz]; exact am_ad_ge ha
theorem am_iald_ok (hX : am_Fx p s m args meth c mi) (hC : am_Cx g s) (hI : am_Inv g h H) (hl : ∀ z ∈ locs, (gH g).size ≤ z.base) (hL : am_L g ls (am_me mi).2.2.1 L)
    (hd : decode (am_me mi).2.1 pc = .ok (.iaload, 1)) {q : am_S} (hs : (am_ri st fun a i r => if (h.2.2.1 a).1 = 0 then am_at i (h.2.2.1 a).2 (some (pc + 1, L, .int (h.2.2.2.2 a i.toNatClampNeg) :: r, h)) else none) = some q) (kt : am_Kt g p l e R s m args below meth c cells slots Q mi h q) :
    W p l e R s m args below meth c H locs cells slots Q (F0 m pc ls (st.map (am_v g))) := by
  replace hs := am_ri_s hs
  obtain ⟨a, i, r, rfl, hs⟩ := hs
  split at hs
  case isFalse => cases hs
  case isTrue hK =>
    replace hs := am_at_s hs
    obtain ⟨hin, hs⟩ := hs
    cases hs
    rw [List.map_cons, List.map_cons, am_v_ref (am_8 hI (by rw [hK]; decide))]
    obtain ⟨cell, q1, q2, q3, q4, -, q6⟩ := am_rowI hC hI hK
    have hlt : i.toNatClampNeg < (h.2.2.1 a).2 := Nat.not_le.mp fun z => hin (Or.inr z)
    exact W.iald hX.1 hX.2.1 q1 q2 q3 (fun z => by rcases z with z | z; exact hin (Or.inl z); omega) (q6 _ hlt) rfl rfl hd (kt.same hI hl hL)
theorem am_bald_ok (hX : am_Fx p s m args meth c mi) (hC : am_Cx g s) (hI : am_Inv g h H) (hl : ∀ z ∈ locs, (gH g).size ≤ z.base) (hL : am_L g ls (am_me mi).2.2.1 L)
    (hd : decode (am_me mi).2.1 pc = .ok (.baload, 1)) {q : am_S} (hs : (am_ri st fun a i r => if (h.2.2.1 a).1 = 2 then am_at i (h.2.2.1 a).2 (some (pc + 1, L, .int (h.2.2.2.2 a i.toNatClampNeg) :: r, h)) else none) = some q) (kt : am_Kt g p l e R s m args below meth c cells slots Q mi h q) :
    W p l e R s m args below meth c H locs cells slots Q (F0 m pc ls (st.map (am_v g))) := by
  replace hs := am_ri_s hs
  obtain ⟨a, i, r, rfl, hs⟩ := hs
  split at hs
  case isFalse => cases hs
  case isTrue hK =>
    replace hs := am_at_s hs
    obtain ⟨hin, hs⟩ := hs
    cases hs
    rw [List.map_cons, List.map_cons, am_v_ref (am_8 hI (by rw [hK]; decide))]
    obtain ⟨cell, q1, q2, q3, q4, -, q6⟩ := am_rowB hC hI hK
    have hlt : i.toNatClampNeg < (h.2.2.1 a).2 := Nat.not_le.mp fun z => hin (Or.inr z)
    exact W.bald hX.1 hX.2.1 q1 q2 q3 (fun z => by rcases z with z | z; exact hin (Or.inl z); omega) (q6 _ hlt) rfl rfl hd (kt.same hI hl hL)
theorem am_aald_ok (hX : am_Fx p s m args meth c mi) (hC : am_Cx g s) (hI : am_Inv g h H) (hl : ∀ z ∈ locs, (gH g).size ≤ z.base) (hL : am_L g ls (am_me mi).2.2.1 L)
    (hd : decode (am_me mi).2.1 pc = .ok (.aaload, 1)) {q : am_S} (hs : (am_ri st fun a i r => if (h.2.2.1 a).1 = 1 then am_at i (h.2.2.1 a).2 (match h.2.2.2.1 a i.toNatClampNeg with
    | some b => some (pc + 1, L, .ref b :: r, h)
    | none => none) else none) = some q) (kt : am_Kt g p l e R s m args below meth c cells slots Q mi h q) :
    W p l e R s m args below meth c H locs cells slots Q (F0 m pc ls (st.map (am_v g))) := by
  replace hs := am_ri_s hs
  obtain ⟨a, i, r, rfl, hs⟩ := hs
  split at hs
  case isFalse => cases hs
  case isTrue hK =>
    replace hs := am_at_s hs
    obtain ⟨hin, hs⟩ := hs
    rw [List.map_cons, List.map_cons, am_v_ref (am_8 hI (by rw [hK]; decide))]
    obtain ⟨ha, q1⟩ := am_rowW hI hK
    have hlt : i.toNatClampNeg < (h.2.2.1 a).2 := Nat.not_le.mp fun z => hin (Or.inr z)
    refine W.aald (v := am_rv g (h.2.2.2.1 a i.toNatClampNeg)) (ty := .object "LarkExchange$World") hX.1 hX.2.1 q1 ((hC.1.2 1 _ rfl).1 _ _) rfl (fun z => by cases z) (by rw [arrV_size]; exact hin) (by rw [arrV_read _ _ hlt]) rfl rfl hd ?_
    have hn8 := hI.2.2.2.2.1 a i.toNatClampNeg
    split at hs
    · rename_i b hb
      cases hs
      have := kt.same hI hl hL
      rw [List.map_cons, am_v_ref (fun z => hn8 (by rw [hb, z]))] at this
      rw [hb]
      exact this
    · cases hs
theorem am_iast_ok (hX : am_Fx p s m args meth c mi) (hC : am_Cx g s) (hI : am_Inv g h H) (hl : ∀ z ∈ locs, (gH g).size ≤ z.base) (hL : am_L g ls (am_me mi).2.2.1 L)
    (hd : decode (am_me mi).2.1 pc = .ok (.iastore, 1)) {q : am_S} (hs : (am_rii st fun a i v r => if (h.2.2.1 a).1 = 0 ∧ 16 ≤ a then am_at i (h.2.2.1 a).2 (some (pc + 1, L, r, am_putI h a i.toNatClampNeg v)) else none) = some q) (kt : am_Kt g p l e R s m args below meth c cells slots Q mi h q) :
    W p l e R s m args below meth c H locs cells slots Q (F0 m pc ls (st.map (am_v g))) := by
  replace hs := am_rii_s hs
  obtain ⟨a, i, v, r, rfl, hs⟩ := hs
  split at hs
  case isFalse => cases hs
  case isTrue hK =>
    obtain ⟨hK, ha⟩ := hK
    replace hs := am_at_s hs
    obtain ⟨hin, hs⟩ := hs
    cases hs
    rw [List.map_cons, List.map_cons, List.map_cons, am_v_ref (am_8 hI (by rw [hK]; decide))]
    have hcell := hI.2.2.2.2.2 a ha (hI.lt (by rw [hK]; decide))
    unfold am_cell at hcell
    rw [hK] at hcell
    refine W.iast hX.1 hX.2.1 hcell ((hC.1.2 0 _ rfl).1 _ _) (fun z => by cases z) (by rw [arrV_size]; exact hin) rfl rfl hd fun H' e1 z oq => ?_
    refine kt.putk rfl rfl (hI.put ha rfl rfl (fun j hj => by simp [am_putI, am_row, hj]) (fun j hj => rfl) (fun j => hI.2.2.2.2.1 a j) z oq ?_) (am_locs1 hl ha) hL
    unfold am_cell
    rw [show (am_putI h a i.toNatClampNeg v).2.2.1 = h.2.2.1 from rfl, hK, e1, arrV_store]
    congr 2
    funext j
    by_cases hq : j = i.toNatClampNeg
    · subst hq; simp [updV, upd, am_putI, am_row]
    · simp [updV, upd, am_putI, am_row, hq]
theorem am_aast_ok (hX : am_Fx p s m args meth c mi) (hC : am_Cx g s) (hI : am_Inv g h H) (hl : ∀ z ∈ locs, (gH g).size ≤ z.base) (hL : am_L g ls (am_me mi).2.2.1 L)
    (hd : decode (am_me mi).2.1 pc = .ok (.aastore, 1)) {q : am_S} (hs : (am_rir st fun a i v r => if (h.2.2.1 a).1 = 1 ∧ 16 ≤ a ∧ (h.2.2.1 v).1 = 12 ∧ 16 ≤ v then am_at i (h.2.2.1 a).2 (some (pc + 1, L, r, am_putR h a i.toNatClampNeg v)) else none) = some q) (kt : am_Kt g p l e R s m args below meth c cells slots Q mi h q) :
    W p l e R s m args below meth c H locs cells slots Q (F0 m pc ls (st.map (am_v g))) := by
  replace hs := am_rir_s hs
  obtain ⟨a, i, v, r, rfl, hs⟩ := hs
  split at hs
  case isFalse => cases hs
  case isTrue hK =>
    obtain ⟨hK, ha, hV, hv⟩ := hK
    replace hs := am_at_s hs
    obtain ⟨hin, hs⟩ := hs
    cases hs
    rw [List.map_cons, List.map_cons, List.map_cons, am_v_ref (i := v) (am_8 hI (by rw [hV]; decide)), am_v_ref (i := a) (am_8 hI (by rw [hK]; decide))]
    obtain ⟨-, hcell⟩ := am_rowW hI hK
    obtain ⟨hc, cellV, g1, g2, g3, -⟩ := am_obj (ci := 9) hI hV hv (by decide)
    have hcls := (hC.1.1 9 _ (am_cls_at hc)).2
    obtain ⟨kA, comp, k1, k2, k3, -⟩ := (hC.1.2 1 _ rfl).2
    have hcomp : comp = gC g 9 := Option.some.inj (k3.symm.trans hcls.1)
    subst hcomp
    obtain ⟨kC, hkC, -⟩ := hcls.2
    have hlt : i.toNatClampNeg < (h.2.2.1 a).2 := Nat.not_le.mp fun z => hin (Or.inr z)
    refine W.aast hX.1 hX.2.1 hcell (fun q z => by cases z) (fun z => by cases z) k1 k2 rfl hkC ⟨fun z => hin (Or.inl z), by rw [arrV_size]; exact hlt⟩ g1 (fun q z => by rw [g3] at z; cases z) (by rw [g2]; exact hkC) (by rw [g2]; exact va_assign hcls) rfl rfl hd fun H' e1 z oq => ?_
    refine kt.putk rfl rfl (hI.put ha rfl rfl (fun j hj => rfl) (fun j hj => by simp [am_putR, am_row, hj]) (fun j => ?_) z oq ?_) (am_locs1 hl ha) hL
    · show (am_row h.2.2.2.1 a (va_up (h.2.2.2.1 a) i.toNatClampNeg (some v)) a) j ≠ some 8
      simp only [am_row, if_pos]
      unfold va_up
      by_cases e9 : j = i.toNatClampNeg
      · rw [if_pos e9]; intro z; have := Option.some.inj z; omega
      · rw [if_neg e9]; exact hI.2.2.2.2.1 a j
    · unfold am_cell
      rw [show (am_putR h a i.toNatClampNeg v).2.2.1 = h.2.2.1 from rfl, hK, e1, arrV_store]
      congr 2
      funext j
      by_cases hq : j = i.toNatClampNeg
      · subst hq; simp [updV, va_up, am_putR, am_row, am_rv]
      · simp [updV, va_up, am_putR, am_row, hq]
theorem am_alen_ok (hX : am_Fx p s m args meth c mi) (hC : am_Cx g s) (hI : am_Inv g h H) (hl : ∀ z ∈ locs, (gH g).size ≤ z.base) (hL : am_L g ls (am_me mi).2.2.1 L)
    (hd : decode (am_me mi).2.1 pc = .ok (.arraylength, 1)) {q : am_S} (hs : (am_r1 st fun a r => if (h.2.2.1 a).1 ≤ 2 then some (pc + 1, L, .int (Int32.ofNat (h.2.2.1 a).2) :: r, h) else none) = some q) (kt : am_Kt g p l e R s m args below meth c cells slots Q mi h q) :
    W p l e R s m args below meth c H locs cells slots Q (F0 m pc ls (st.map (am_v g))) := by
  replace hs := am_r1_s hs
  obtain ⟨a, r, rfl, hs⟩ := hs
  split at hs
  case isFalse => cases hs
  case isTrue hK =>
    cases hs
    rw [List.map_cons, am_v_ref (am_8 hI (by omega))]
    rcases (show (h.2.2.1 a).1 = 0 ∨ (h.2.2.1 a).1 = 1 ∨ (h.2.2.1 a).1 = 2 by omega) with hK | hK | hK
    · obtain ⟨cell, q1, q2, q3, q4, q5, q6⟩ := am_rowI hC hI hK
      exact W.alen hX.1 hX.2.1 q1 q2 q5 rfl rfl hd (kt.same hI hl hL)
    · obtain ⟨-, q1⟩ := am_rowW hI hK
      exact W.alen hX.1 hX.2.1 q1 ((hC.1.2 1 _ rfl).1 _ _) (by rw [arrV_size] <;> rfl) rfl rfl hd (kt.same hI hl hL)
    · obtain ⟨cell, q1, q2, q3, q4, q5, q6⟩ := am_rowB hC hI hK
      exact W.alen hX.1 hX.2.1 q1 q2 q5 rfl rfl hd (kt.same hI hl hL)
theorem am_small {n : Int32} (h : ¬ (n < 0 ∨ 100000 ≤ n)) : n.toNatClampNeg * 4 ≤ 536870912 := by
  have h1 : ¬ (100000 : Int32) ≤ n := fun z => h (Or.inr z)
  rw [Int32.le_iff_toInt_le] at h1
  have h2 : n.toNatClampNeg = n.toInt.toNat := rfl
  have h3 : (100000 : Int32).toInt = 100000 := by decide
  omega
theorem am_newa_ok (hX : am_Fx p s m args meth c mi) (hC : am_Cx g s) (hI : am_Inv g h H) (hl : ∀ z ∈ locs, (gH g).size ≤ z.base) (hL : am_L g ls (am_me mi).2.2.1 L)
    (hd : decode (am_me mi).2.1 pc = .ok (.newarray .int, 2)) {q : am_S} (hs : (am_i1 st fun n r => if n < 0 ∨ 100000 ≤ n then none else some (pc + 2, L, .ref h.1 :: r, am_make h (0, n.toNatClampNeg) n.toNatClampNeg)) = some q)
    (hcells : cells + (q.2.2.2.1 - h.1) ≤ R.cells) (hslots : slots + (q.2.2.2.2.1 - h.2.1) ≤ R.slots) (kt : am_Kt g p l e R s m args below meth c cells slots Q mi h q) :
    W p l e R s m args below meth c H locs cells slots Q (F0 m pc ls (st.map (am_v g))) := by
  replace hs := am_i1_s hs
  obtain ⟨n, r, rfl, hs⟩ := hs
  split at hs
  case isTrue => cases hs
  case isFalse hn =>
    cases hs
    have c1 : cells + 1 ≤ R.cells := by have : cells + (h.1 + 1 - h.1) ≤ R.cells := hcells; omega
    have c2 : slots + n.toNatClampNeg ≤ R.slots := by have : slots + (h.2.1 + n.toNatClampNeg - h.2.1) ≤ R.slots := hslots; omega
    refine va_newaK (atype := .int) hX.1 hX.2.1 (hX.2.2.2.2.2.2.2 _ am_w_ints) rfl hd rfl (fun z => hn (Or.inl z)) rfl (am_small hn) c1 c2 hI.next.symm fun H' cA e1 z1 o1 hAr hNm => ?_
    have hcA : cA = gA g := Option.some.inj (hNm.symm.trans (hC.1.2 0 _ rfl).2)
    subst hcA
    have hI' : am_Inv g (am_make h (0, n.toNatClampNeg) n.toNatClampNeg) H' := by
      refine hI.make (by rw [z1, hI.next]) (fun q hq => o1 q (by rw [hI.next]; exact hq)) ?_
      unfold am_cell
      simp only [am_make, am_row, if_pos]
      exact e1
    have h9 := kt H' locs ls hI' hl hL
    have h9 : W p l e R s m args below meth c H' locs (cells + (h.1 + 1 - h.1)) (slots + (h.2.1 + n.toNatClampNeg - h.2.1)) Q (F0 m (pc + 2) ls ((Value.ref h.1 :: r).map (am_v g))) := h9
    rw [show h.1 + 1 - h.1 = 1 by omega, show h.2.1 + n.toNatClampNeg - h.2.1 = n.toNatClampNeg by omega, List.map_cons, am_v_ref (by have := hI.1.1; omega)] at h9
    exact h9
theorem am_anew_ok {i : Nat} (hX : am_Fx p s m args meth c mi) (hC : am_Cx g s) (hI : am_Inv g h H) (hl : ∀ z ∈ locs, (gH g).size ≤ z.base) (hL : am_L g ls (am_me mi).2.2.1 L)
    (hd : decode (am_me mi).2.1 pc = .ok (.anewarray i, 3)) (hlk : Cond.classLink (am_me mi).1.cls i "LarkExchange$World" ∈ am_tb) {x : Nat} {q : am_S} (hs : (am_i1 st fun n r => if n < 0 ∨ 100000 ≤ n ∨ x ≠ 9 then none else some (pc + 3, L, .ref h.1 :: r, am_make h (1, n.toNatClampNeg) n.toNatClampNeg)) = some q)
    (hcells : cells + (q.2.2.2.1 - h.1) ≤ R.cells) (hslots : slots + (q.2.2.2.2.1 - h.2.1) ≤ R.slots) (kt : am_Kt g p l e R s m args below meth c cells slots Q mi h q) :
    W p l e R s m args below meth c H locs cells slots Q (F0 m pc ls (st.map (am_v g))) := by
  replace hs := am_i1_s hs
  obtain ⟨n, r, rfl, hs⟩ := hs
  split at hs
  case isTrue => cases hs
  case isFalse hn =>
    cases hs
    have c1 : cells + 1 ≤ R.cells := by have : cells + (h.1 + 1 - h.1) ≤ R.cells := hcells; omega
    have c2 : slots + n.toNatClampNeg ≤ R.slots := by have : slots + (h.2.1 + n.toNatClampNeg - h.2.1) ≤ R.slots := hslots; omega
    refine W.anew hX.1 hX.2.1 hX.2.2.2.1 (hX.2.2.2.2.2.2.2 _ hlk) (va_AO.use hC.2.2.1) rfl hd rfl (fun z => hn (Or.inl z)) (am_small (fun z => hn (z.elim Or.inl (fun z => Or.inr (Or.inl z))))) c1 c2 fun cA kA comp f1 f2 f3 f4 => ?_
    obtain ⟨kA2, comp2, -, -, -, k4⟩ := (hC.1.2 1 _ rfl).2
    have hcA : cA = gW g := Option.some.inj (f1.symm.trans k4)
    subst hcA
    have hI' : am_Inv g (am_make h (1, n.toNatClampNeg) n.toNatClampNeg) (H.push { cls := gW g, slots := Array.replicate n.toNatClampNeg .null, vm := .none }) := by
      refine hI.make (by rw [Array.size_push]) (fun q hq => by rw [Array.getElem?_push, if_neg (Nat.ne_of_lt hq)]) ?_
      unfold am_cell
      simp only [am_make, am_row, if_pos]
      rw [hI.next, Array.getElem?_push_size, arrV_new]
      rfl
    have h9 := kt _ locs ls hI' hl hL
    have h9 : W p l e R s m args below meth c (H.push { cls := gW g, slots := Array.replicate n.toNatClampNeg .null, vm := .none }) locs (cells + (h.1 + 1 - h.1)) (slots + (h.2.1 + n.toNatClampNeg - h.2.1)) Q (F0 m (pc + 3) ls ((Value.ref h.1 :: r).map (am_v g))) := h9
    rw [show h.1 + 1 - h.1 = 1 by omega, show h.2.1 + n.toNatClampNeg - h.2.1 = n.toNatClampNeg by omega, List.map_cons, am_v_ref (by have := hI.1.1; omega), hI.next] at h9
    exact h9
theorem am_new_ok {i ci : Nat} (hX : am_Fx p s m args meth c mi) (hC : am_Cx g s) (hI : am_Inv g h H) (hl : ∀ z ∈ locs, (gH g).size ≤ z.base) (hL : am_L g ls (am_me mi).2.2.1 L)
    (hd : decode (am_me mi).2.1 pc = .ok (.new i, 3)) (hc : ci < 12) (hlk : Cond.classLink (am_me mi).1.cls i (am_Rn ci) ∈ am_tb)
    (hcells : cells + 1 ≤ R.cells) (hslots : slots + am_Nf ci ≤ R.slots) (kt : am_Kt g p l e R s m args below meth c cells slots Q mi h (pc + 3, L, .ref h.1 :: st, am_make h (ci + 3, 0) (am_Nf ci))) :
    W p l e R s m args below meth c H locs cells slots Q (F0 m pc ls (st.map (am_v g))) := by
  obtain ⟨hx, hb, hml, hown, hr, hlo, hin, hts⟩ := hX
  have hKn := hC.1.1 ci _ (am_cls_at hc)
  refine W.newcK hx hb hown (hts _ hlk) (hts _ (am_ins_in hc).1) (hts _ (am_ins_in hc).2) rfl hd hcells hslots hKn.2.1 hI.next.symm fun H1 kC hkC e1 z1 o1 => ?_
  have hI' : am_Inv g (am_make h (ci + 3, 0) (am_Nf ci)) H1 := by
    refine hI.make (by rw [z1, hI.next]) (fun q hq => o1 q (by rw [hI.next]; exact hq)) ?_
    unfold am_cell
    simp only [am_make, am_row, if_pos]
    refine ⟨hc, (u_born (am_ty ci) hts (am_lay_in hc) hKn hkC e1 (am_tyok hc)).to (fun k hk => ?_)⟩
    unfold am_fv
    by_cases hi : am_isI (am_ty ci k) = true
    · rw [if_pos hi]
      unfold am_isI at hi
      cases ht : am_ty ci k <;> rw [ht] at hi <;> first | (simp [defaultValue, am_row]; done) | cases hi
    · rw [if_neg hi]
      have := am_isO_of hc hk (by simpa using hi)
      unfold am_isO at this
      cases ht : am_ty ci k <;> rw [ht] at this <;> first | (simp [defaultValue, am_rv, am_row]; done) | cases this
  have h9 := kt H1 locs ls hI' hl hL
  have h9 : W p l e R s m args below meth c H1 locs (cells + (h.1 + 1 - h.1)) (slots + (h.2.1 + am_Nf ci - h.2.1)) Q (F0 m (pc + 3) ls ((Value.ref h.1 :: st).map (am_v g))) := h9
  rw [show h.1 + 1 - h.1 = 1 by omega, show h.2.1 + am_Nf ci - h.2.1 = am_Nf ci by omega, List.map_cons, am_v_ref (by have := hI.1.1; omega)] at h9
  exact h9
theorem am_copy_ok {i : Nat} (hX : am_Fx p s m args meth c mi) (hC : am_Cx g s) (hI : am_Inv g h H) (hl : ∀ z ∈ locs, (gH g).size ≤ z.base) (hL : am_L g ls (am_me mi).2.2.1 L)
    (hd : decode (am_me mi).2.1 pc = .ok (.invokestatic i, 3)) (hlk : Cond.methodLink (am_me mi).1.cls i arraycopyName ∈ am_tb) (hfr : 1 ≤ R.frames) (hlo : 64 ≤ R.locals) {q : am_S} (hs : am_copy pc L st h = some q) (kt : am_Kt g p l e R s m args below meth c cells slots Q mi h q) :
    W p l e R s m args below meth c H locs cells slots Q (F0 m pc ls (st.map (am_v g))) := by
  obtain ⟨hx, hb, hml, hown, hr, hlk2, hin, hts⟩ := hX
  unfold am_copy at hs
  split at hs
  case h_2 => cases hs
  case h_1 n dp b sp a r =>
    split at hs
    case isFalse => cases hs
    case isTrue hK =>
      obtain ⟨hKa, hKb, ha, hb16, hsum⟩ := hK
      split at hs
      case isTrue => cases hs
      case isFalse hn =>
        cases hs
        simp only [not_or, Nat.not_lt] at hn
        obtain ⟨n1, n2, n3, n4, n5⟩ := hn
        have hst : ((Value.int n :: .int dp :: .ref b :: .int sp :: .ref a :: r).map (am_v g)) = .int n :: .int dp :: .ref (am_ad g b) :: .int sp :: .ref (am_ad g a) :: r.map (am_v g) := by
          simp only [List.map_cons]
          rw [am_v_ref (i := a) (fun z => absurd (z ▸ ha : 16 ≤ 8) (by decide)), am_v_ref (i := b) (fun z => absurd (z ▸ hb16 : 16 ≤ 8) (by decide))]
          rfl
        rw [hst]
        have ca := hI.2.2.2.2.2 a ha (hI.lt (by rw [hKa]; decide))
        have cb := hI.2.2.2.2.2 b hb16 (hI.lt (by rw [hKb]; decide))
        unfold am_cell at ca cb
        rw [hKa] at ca
        rw [hKb] at cb
        have nn : ∀ z : Int32, ¬ z < 0 → z.toInt = (z.toNatClampNeg : Int) := by
          intro z hz
          have hz0 : (0 : Int) ≤ z.toInt := by
            have := Int32.not_lt.mp hz
            simpa using Int32.le_iff_toInt_le.mp this
          show z.toInt = ((z.toInt.toNat : Nat) : Int)
          omega
        have ca' : H[am_ad g a]? = some (vp_cell (gA g) ((h.2.2.1 a).2, .inl (h.2.2.2.2 a))) := ca
        have cb' : H[am_ad g b]? = some (vp_cell (gA g) ((h.2.2.1 b).2, .inl (h.2.2.2.2 b))) := cb
        have hAr := (hC.1.2 0 _ rfl).1
        obtain ⟨-, k0, hk0, cm0, hkk0⟩ := hAr (h.2.2.1 a).2 (fun j => .int (h.2.2.2.2 a j))
        obtain ⟨-, k1, hk1, cm1, hkk1⟩ := hAr (h.2.2.1 b).2 (fun j => .int (h.2.2.2.2 b j))
        intro T hT X
        obtain ⟨vm', X', step⟩ := X.arraycopy hx hown (hts _ hlk) (hts _ am_w_copy.1) (hts _ am_w_copy.2.1) (hts _ am_w_copy.2.2) (src := am_ad g a) (dst := am_ad g b) (cs := vp_cell (gA g) ((h.2.2.1 a).2, .inl (h.2.2.2.2 a))) (cd := vp_cell (gA g) ((h.2.2.1 b).2, .inl (h.2.2.2.2 b))) (srcPos := sp) (destPos := dp) (n := n) (by rw [hT]; exact ca') (by rw [hT]; exact cb')
          (fun _ z => by cases z) (fun _ z => by cases z) (fun z => by cases z) (fun z => by cases z) hk0 hk1 hkk0 hkk1 (by simp [refKind]) n1 n2 n3
          (by rw [nn sp n1, nn n n3]; show ¬ _ > ((arrV (gA g) (h.2.2.1 a).2 (fun j => .int (h.2.2.2.2 a j))).slots.size : Int); rw [arrV_size]; omega)
          (by rw [nn dp n2, nn n n3]; show ¬ _ > ((arrV (gA g) (h.2.2.1 b).2 (fun j => .int (h.2.2.2.2 b j))).slots.size : Int); rw [arrV_size]; omega)
          (fun vm₁ _ i hi => by
            have e : (vp_cell (gA g) ((h.2.2.1 a).2, .inl (h.2.2.2.2 a))).slots.getD (sp.toNatClampNeg + i) .null = .int (h.2.2.2.2 a (sp.toNatClampNeg + i)) := by
              show (arrV (gA g) (h.2.2.1 a).2 (fun j => .int (h.2.2.2.2 a j))).slots.getD _ _ = _
              rw [Array.getD_eq_getD_getElem?, arrV_read _ _ (by omega)]
              rfl
            refine ⟨?_, ?_⟩
            · rw [e]
              rfl
            · rw [e]
              exact trivial)
          (g := F0 m pc ls (.int n :: .int dp :: .ref (am_ad g b) :: .int sp :: .ref (am_ad g a) :: r.map (am_v g))) rfl (by show ls.size = _; rw [hml]; exact hL.1) (rest := r.map (am_v g)) rfl (by rw [hb]; exact hd) hfr (by
            have h1 := am_sum_v hC.F r
            have h2 : nativeFrameWords "java/lang/System" "arraycopy" 5 + 11 ≤ 56 := by decide +kernel
            show 2 * 0 + _ + _ ≤ _
            omega)
        have e1 : copied (vp_cell (gA g) ((h.2.2.1 a).2, .inl (h.2.2.2.2 a))) (vp_cell (gA g) ((h.2.2.1 b).2, .inl (h.2.2.2.2 b))) sp dp n = vp_cell (gA g) ((h.2.2.1 b).2, .inl (va_cpy (h.2.2.2.2 a) (h.2.2.2.2 b) sp.toNatClampNeg dp.toNatClampNeg n.toNatClampNeg)) := va_copied (fun z => .int z) (gA g) (gA g) (h.2.2.2.2 a) (h.2.2.2.2 b) n4
        rw [e1] at X' step
        have hlb : am_ad g b < H.size := (Array.getElem?_eq_some_iff.mp cb').1
        have hheap : ((T.setVm vm').setCell (am_ad g b) (vp_cell (gA g) ((h.2.2.1 b).2, .inl (va_cpy (h.2.2.2.2 a) (h.2.2.2.2 b) sp.toNatClampNeg dp.toNatClampNeg n.toNatClampNeg)))).heap = H.setIfInBounds (am_ad g b) (vp_cell (gA g) ((h.2.2.1 b).2, .inl (va_cpy (h.2.2.2.2 a) (h.2.2.2.2 b) sp.toNatClampNeg dp.toNatClampNeg n.toNatClampNeg))) := by rw [← hT]; rfl
        have oq : ∀ q : Nat, q ≠ am_ad g b → (H.setIfInBounds (am_ad g b) (vp_cell (gA g) ((h.2.2.1 b).2, .inl (va_cpy (h.2.2.2.2 a) (h.2.2.2.2 b) sp.toNatClampNeg dp.toNatClampNeg n.toNatClampNeg))))[q]? = H[q]? := fun q hq => by simp [Array.getElem?_setIfInBounds, Ne.symm hq]
        obtain ⟨t, a1, b1⟩ := kt.putk rfl rfl (hI.put hb16 rfl rfl (fun j hj => by simp [am_row, hj]) (fun j hj => rfl) (fun j => hI.2.2.2.2.1 b j) (by simp) oq (by
          unfold am_cell
          simp only
          rw [hKb]
          simp only [am_row, if_pos]
          rw [Array.getElem?_setIfInBounds, if_pos rfl, if_pos hlb]
          rfl)) (fun z hz => by
            rcases List.mem_append.mp hz with hz | hz
            · exact hl z hz
            · obtain ⟨y, -, hy⟩ := List.mem_map.mp hz
              rw [← hy]
              exact am_ad_ge hb16) hL _ hheap X'
        exact ⟨t, step t a1, b1⟩
end AMR
