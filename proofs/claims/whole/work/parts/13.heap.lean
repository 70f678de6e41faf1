/-! ONE INSTRUCTION: the heap's -/
def am_isO (t : FieldType) : Bool := match t with
  | .object _ => true
  | .array _ => true
  | _ => false
theorem am_isO_ok : (List.range 12).all (fun c => (List.range (am_Nf c)).all (fun k => am_isI (am_ty c k) || am_isO (am_ty c k))) = true := by decide +kernel
theorem am_isO_of {c k : Nat} (hc : c < 12) (hk : k < am_Nf c) (h : am_isI (am_ty c k) = false) : am_isO (am_ty c k) = true := by
  have := List.all_eq_true.mp (List.all_eq_true.mp am_isO_ok c (List.mem_range.mpr hc)) k (List.mem_range.mpr hk)
  rw [h] at this
  simpa using this
theorem am_8 {g : am_G} {h : am_H} {H : Heap} (hI : am_Inv g h H) {a : Nat} (hk : (h.2.2.1 a).1 ≠ 999) : a ≠ 8 := fun e => hk (by rw [e, (hI.2.2.1 8 (by omega)).1]; rfl)
section AMH
variable {g : am_G} {p : Program} {l : Launch} {e : Env} {R : Room} {s : State} {m : MethodId} {args : Array Value} {below : List Frame} {meth : Method} {c : Code} {H : Heap} {locs : List Loc} {cells slots : Nat} {Q : State → Prop} {mi pc : Nat} {L st : List Value} {ls : Array Slot} {h : am_H}
theorem am_obj {a ci : Nat} (hI : am_Inv g h H) (hK : (h.2.2.1 a).1 = ci + 3) (hge : 16 ≤ a) (hc : ci + 3 ≠ 999) : ci < 12 ∧ t_OB (am_ad g a) (gC g ci) (am_Nf ci) (gI g ci) H (fun k => am_fv g h a ci k) := by
  have hcell := hI.2.2.2.2.2 a hge (hI.lt (by rw [hK]; exact hc))
  unfold am_cell at hcell
  rw [hK] at hcell
  exact hcell
/-- an int row, of either kind -/
theorem am_rowI {a : Nat} (hC : am_Cx g s) (hI : am_Inv g h H) (hK : (h.2.2.1 a).1 = 0) : ∃ cell : Cell, H[am_ad g a]? = some cell ∧ s.isArrayOf cell .int ∧ cell.vm ≠ .unknown ∧ (h.2.2.1 a).2 ≤ cell.slots.size ∧ cell.slots.size.toInt32 = Int32.ofNat (h.2.2.1 a).2 ∧ ∀ j : Nat, j < (h.2.2.1 a).2 → cell.slots[j]? = some (.int (h.2.2.2.2 a j)) := by
  rcases Nat.lt_or_ge a 16 with ha | ha
  · obtain ⟨hk, hm, -⟩ := hI.2.2.1 a ha
    rw [am_ad_small ha]
    have hcase : a = 0 ∨ (1 ≤ a ∧ a ≤ 3) := by
      rw [hk] at hK
      rcases (show a = 0 ∨ a = 1 ∨ a = 2 ∨ a = 3 ∨ a = 4 ∨ a = 5 ∨ a = 6 ∨ a = 7 ∨ 8 ≤ a by omega) with q | q | q | q | q | q | q | q | q
      · exact Or.inl q
      · exact Or.inr (by omega)
      · exact Or.inr (by omega)
      · exact Or.inr (by omega)
      · subst q; cases hK
      · subst q; cases hK
      · subst q; cases hK
      · subst q; cases hK
      · rcases (show a = 8 ∨ a = 9 ∨ a = 10 ∨ a = 11 ∨ a = 12 ∨ a = 13 ∨ a = 14 ∨ a = 15 by omega) with q | q | q | q | q | q | q | q <;> subst q <;> cases hK
    rcases hcase with rfl | ⟨h1, h3⟩
    · obtain ⟨⟨scr, q1, q2, q3, q4, q5⟩, hb⟩ := hC.2.2.2.2.1
      refine ⟨scr, by rw [hI.2.1 _ hb]; exact q1, q2, q3, ?_, ?_, fun j hj => ?_⟩
      · rw [hk, q4]; exact Nat.le_refl _
      · rw [hk, q4]; rfl
      · rw [hm j]
        rw [hk] at hj
        exact q5 j hj
    · obtain ⟨cell, q1, q2, q3, q4, q5, q6, q7⟩ := hC.2.2.2.2.2.1 a h1 h3
      have hk2 : (h.2.2.1 a).2 = (am_roK 0 a).2 := by
        rw [hk]
        rcases (show a = 1 ∨ a = 2 ∨ a = 3 by omega) with q | q | q <;> subst q <;> rfl
      refine ⟨cell, by rw [hI.2.1 _ (Nat.lt_of_not_le q7)]; exact q1, q2, q3, by rw [hk2]; exact q4, by rw [hk2]; exact q5, fun j hj => ?_⟩
      rw [hm j]
      exact q6 j (by rw [← hk2]; exact hj)
  · have hcell := hI.2.2.2.2.2 a ha (hI.lt (by rw [hK]; decide))
    unfold am_cell at hcell
    rw [hK] at hcell
    refine ⟨_, hcell, (hC.1.2 0 _ rfl).1 _ _, fun q => (by cases q), ?_, ?_, fun j hj => arrV_read _ _ hj⟩
    · rw [arrV_size]; exact Nat.le_refl _
    · rw [arrV_size] <;> rfl
/-- a byte row -/
theorem am_rowB {a : Nat} (hC : am_Cx g s) (hI : am_Inv g h H) (hK : (h.2.2.1 a).1 = 2) : ∃ cell : Cell, H[am_ad g a]? = some cell ∧ s.isArrayOf cell .byte ∧ cell.vm ≠ .unknown ∧ (h.2.2.1 a).2 ≤ cell.slots.size ∧ cell.slots.size.toInt32 = Int32.ofNat (h.2.2.1 a).2 ∧ ∀ j : Nat, j < (h.2.2.1 a).2 → cell.slots[j]? = some (.int (h.2.2.2.2 a j)) := by
  rcases Nat.lt_or_ge a 16 with ha | ha
  · obtain ⟨hk, hm, -⟩ := hI.2.2.1 a ha
    rw [am_ad_small ha]
    have hcase : ∃ k : Nat, k < 2 ∧ a = 5 + 2 * k := by
      rw [hk] at hK
      rcases (show a = 0 ∨ a = 1 ∨ a = 2 ∨ a = 3 ∨ a = 4 ∨ a = 5 ∨ a = 6 ∨ a = 7 ∨ a = 8 ∨ a = 9 ∨ a = 10 ∨ a = 11 ∨ a = 12 ∨ a = 13 ∨ a = 14 ∨ a = 15 by omega) with q | q | q | q | q | q | q | q | q | q | q | q | q | q | q | q <;> subst q
      · cases hK
      · cases hK
      · cases hK
      · cases hK
      · cases hK
      · exact ⟨0, by omega, rfl⟩
      · cases hK
      · exact ⟨1, by omega, rfl⟩
      all_goals cases hK
    obtain ⟨k, hk2, rfl⟩ := hcase
    obtain ⟨cell, q1, q2, q3, q4, q5, q6, q7⟩ := (hC.2.2.2.2.2.2.1 k hk2).1
    have hk3 : (h.2.2.1 (5 + 2 * k)).2 = (am_roK 0 (5 + 2 * k)).2 := by
      rw [hk]
      rcases (show k = 0 ∨ k = 1 by omega) with q | q <;> subst q <;> rfl
    refine ⟨cell, by rw [hI.2.1 _ (Nat.lt_of_not_le q7)]; exact q1, q2, q3, by rw [hk3]; exact q4, by rw [hk3]; exact q5, fun j hj => ?_⟩
    rw [hm j]
    exact q6 j (by rw [← hk3]; exact hj)
  · have hcell := hI.2.2.2.2.2 a ha (hI.lt (by rw [hK]; decide))
    unfold am_cell at hcell
    rw [hK] at hcell
    exact hcell.elim
/-- a row of Worlds -/
theorem am_rowW {a : Nat} (hI : am_Inv g h H) (hK : (h.2.2.1 a).1 = 1) : 16 ≤ a ∧ H[am_ad g a]? = some (arrV (gW g) (h.2.2.1 a).2 (fun j => am_rv g (h.2.2.2.1 a j))) := by
  rcases Nat.lt_or_ge a 16 with ha | ha
  · obtain ⟨hk, -, -⟩ := hI.2.2.1 a ha
    rw [hk] at hK
    rcases (show a = 0 ∨ a = 1 ∨ a = 2 ∨ a = 3 ∨ a = 4 ∨ a = 5 ∨ a = 6 ∨ a = 7 ∨ a = 8 ∨ a = 9 ∨ a = 10 ∨ a = 11 ∨ a = 12 ∨ a = 13 ∨ a = 14 ∨ a = 15 by omega) with q | q | q | q | q | q | q | q | q | q | q | q | q | q | q | q <;> subst q <;> cases hK
  · have hcell := hI.2.2.2.2.2 a ha (hI.lt (by rw [hK]; decide))
    unfold am_cell at hcell
    rw [hK] at hcell
    exact ⟨ha, hcell⟩
theorem am_getf_ok {i ci k : Nat} (hX : am_Fx p s m args meth c mi) (hC : am_Cx g s) (hI : am_Inv g h H) (hl : ∀ z ∈ locs, (gH g).size ≤ z.base) (hL : am_L g ls (am_me mi).2.2.1 L)
    (hd : decode (am_me mi).2.1 pc = .ok (.getfield i, 3)) (hci : ci ≤ 12) (hk : k < am_Nf ci) (hlk : Cond.fieldLink (am_me mi).1.cls i (am_Ft ci k).1 (am_Ft ci k).2.1 (am_Ft ci k).2.2.1 ∈ am_tb) {q : am_S} (hs : am_getf pc ci k L st h = some q) (kt : am_Kt g p l e R s m args below meth c cells slots Q mi h q) :
    W p l e R s m args below meth c H locs cells slots Q (F0 m pc ls (st.map (am_v g))) := by
  obtain ⟨hx, hb, hml, hown, hr, hlo, hin, hts⟩ := hX
  unfold am_getf at hs
  replace hs := am_r1_s hs
  obtain ⟨a, r, rfl, hs⟩ := hs
  split at hs
  case isFalse => cases hs
  case isTrue hK =>
    have h8 : a ≠ 8 := am_8 hI (by rw [hK]; omega)
    have hst : ((Value.ref a :: r).map (am_v g)) = .ref (am_ad g a) :: r.map (am_v g) := by rw [List.map_cons, am_v_ref h8]
    rw [hst]
    rcases Nat.lt_or_ge a 16 with ha | ha
    · obtain ⟨hk1, hm, hrr⟩ := hI.2.2.1 a ha
      have hcase : ∃ j : Nat, j < 2 ∧ a = 4 + 2 * j ∧ ci = 12 := by
        rw [hk1] at hK
        rcases (show a = 0 ∨ a = 1 ∨ a = 2 ∨ a = 3 ∨ a = 4 ∨ a = 5 ∨ a = 6 ∨ a = 7 ∨ a = 8 ∨ a = 9 ∨ a = 10 ∨ a = 11 ∨ a = 12 ∨ a = 13 ∨ a = 14 ∨ a = 15 by omega) with q | q | q | q | q | q | q | q | q | q | q | q | q | q | q | q <;> subst q <;> simp only [am_roK] at hK
        · omega
        · omega
        · omega
        · omega
        · exact ⟨0, by omega, rfl, by omega⟩
        · omega
        · exact ⟨1, by omega, rfl, by omega⟩
        all_goals omega
      obtain ⟨j, hj, rfl, rfl⟩ := hcase
      rw [am_ad_small ha]
      obtain ⟨-, -, hco, hva, -⟩ := hC.2.2.2.2.2.2.1 j hj
      rcases (show k = 0 ∨ k = 1 from by have : k < 2 := hk; omega) with rfl | rfl
      · obtain ⟨cf, kc, fi, f, cell, g1, g2, g3, g4, g5, g6⟩ := hco
        refine W.getf hx hb hown (hts _ hlk) g1 g2 (by rw [hI.2.1 _ (Nat.lt_of_not_le g6)]; exact g3) g4 (v := .int 0) g5 rfl rfl hd ?_
        rw [if_pos (show am_isI (am_ty 12 0) = true from rfl)] at hs
        cases hs
        have e0 : h.2.2.2.2 (4 + 2 * j) 0 = 0 := by
          rw [hm 0]
          rcases (show j = 0 ∨ j = 1 by omega) with q | q <;> subst q <;> rfl
        have := kt.same hI hl hL
        rw [e0] at this
        exact this
      · obtain ⟨cf, kc, fi, f, cell, g1, g2, g3, g4, g5, g6⟩ := hva
        refine W.getf hx hb hown (hts _ hlk) g1 g2 (by rw [hI.2.1 _ (Nat.lt_of_not_le g6)]; exact g3) g4 (v := .ref (gR g (5 + 2 * j))) g5 rfl rfl hd ?_
        rw [if_neg (show ¬ am_isI (am_ty 12 1) = true from by decide)] at hs
        have e0 : h.2.2.2.1 (4 + 2 * j) 1 = some (5 + 2 * j) := by
          rw [hrr 1]
          rcases (show j = 0 ∨ j = 1 by omega) with q | q <;> subst q <;> rfl
        rw [e0] at hs
        cases hs
        have := kt.same hI hl hL
        rw [List.map_cons, am_v_ref (by omega), am_ad_small (by omega)] at this
        exact this
    · obtain ⟨hc, cell, q1, q2, q3, q4⟩ := am_obj hI hK ha (by omega)
      obtain ⟨hS, hfc, kC, hkC, hkind⟩ := hC.1.1 ci _ (am_cls_at hc)
      obtain ⟨cf, kf, fi, f, hi, hsl⟩ := hS k hk
      refine W.getf hx hb hown (hts _ hlk) hi (u_facts hfc hkC (u_lays hts (am_lay_in hc) hk) hi).1 q1 (by rw [q3]; exact fun z => by cases z) (v := am_fv g h a ci k) (by rw [hsl, q4 k hk]) rfl rfl hd ?_
      split at hs
      case isTrue hi1 =>
        cases hs
        have := kt.same hI hl hL
        rw [show am_fv g h a ci k = .int (h.2.2.2.2 a k) by unfold am_fv; rw [if_pos hi1]]
        exact this
      case isFalse hi1 =>
        have hn8 := hI.2.2.2.2.1 a k
        split at hs
        · rename_i b hb2
          cases hs
          have := kt.same hI hl hL
          rw [List.map_cons, am_v_ref (fun z => hn8 (by rw [hb2, z]))] at this
          rw [show am_fv g h a ci k = .ref (am_ad g b) by unfold am_fv; rw [if_neg hi1, hb2]; rfl]
          exact this
        · cases hs
/-- what a store of a field leaves -/
theorem am_putf_core {i ci k a : Nat} {v : Value} {r : List Value} {h' : am_H} (hX : am_Fx p s m args meth c mi) (hC : am_Cx g s) (hI : am_Inv g h H) (hl : ∀ z ∈ locs, (gH g).size ≤ z.base) (hL : am_L g ls (am_me mi).2.2.1 L)
    (hd : decode (am_me mi).2.1 pc = .ok (.putfield i, 3)) (hc : ci < 12) (hk : k < am_Nf ci) (hlk : Cond.fieldLink (am_me mi).1.cls i (am_Ft ci k).1 (am_Ft ci k).2.1 (am_Ft ci k).2.2.1 ∈ am_tb) (hfin : am_fin (am_me mi).1 ci k = true)
    (hK : (h.2.2.1 a).1 = ci + 3) (ha : 16 ≤ a) (hn : narrow (am_ty ci k) v = v) (hf : fits (am_ty ci k) v = true) (e1 : h'.1 = h.1) (e2 : h'.2.1 = h.2.1) (e3 : h'.2.2.1 = h.2.2.1) (e4 : ∀ i, i ≠ a → h'.2.2.2.2 i = h.2.2.2.2 i) (e5 : ∀ i, i ≠ a → h'.2.2.2.1 i = h.2.2.2.1 i) (e6 : ∀ j, h'.2.2.2.1 a j ≠ some 8)
    (e7 : ∀ j, j < am_Nf ci → am_fv g h' a ci j = updV (fun j => am_fv g h a ci j) k v j) (kt : am_Kt g p l e R s m args below meth c cells slots Q mi h (pc + 3, L, r, h')) :
    W p l e R s m args below meth c H locs cells slots Q (F0 m pc ls (v :: .ref (am_ad g a) :: r.map (am_v g))) := by
  obtain ⟨hx, hb, hml, hown, hr, hlo, hin, hts⟩ := hX
  obtain ⟨-, cell, q1, q2, q3, q4⟩ := am_obj hI hK ha (by omega)
  obtain ⟨hS, hfc, kC, hkC, hkind⟩ := hC.1.1 ci _ (am_cls_at hc)
  obtain ⟨cf, kf, fi, f, hi, hsl⟩ := hS k hk
  have hap : ∀ x y, x < am_Nf ci → y < am_Nf ci → x ≠ y → (gI g ci) x ≠ (gI g ci) y := va_apart (own := (am_me mi).1.cls) hts (am_lay_in hc) (am_ty ci) (am_tyok hc) (am_nm hc) hC.1 (am_cls_at hc)
  have hst := (u_facts hfc hkC (u_lays hts (am_lay_in hc) hk) hi).1
  have hlay := hts _ (am_lay_in hc _ (u_in_lay hk))
  unfold u_lay at hlay
  have fin : ∀ H' : Heap, H'[am_ad g a]? = some (cell.setSlot f.slot v) → H'.size = H.size → (∀ q, q ≠ am_ad g a → H'[q]? = H[q]?) → W p l e R s m args below meth c H' (locs ++ [⟨am_ad g a, f.slot⟩]) cells slots Q (F0 m (pc + 3) ls (r.map (am_v g))) := by
    intro H' z1 z2 z3
    rw [hsl] at z1
    refine kt.putk e1 e2 (hI.put ha e1 e3 e4 e5 e6 z2 z3 ?_) (fun z hz => ?_) hL
    · unfold am_cell
      rw [e3, hK]
      exact ⟨hc, t_OB.to (V := updV (fun j => am_fv g h a ci j) k v) ⟨_, z1, q2, q3, t_set q4 hap hk v⟩ (fun j hj => (e7 j hj).symm)⟩
    · rcases List.mem_append.mp hz with hz | hz
      · exact hl z hz
      · rw [List.mem_singleton.mp hz]; exact am_ad_ge ha
  unfold am_fin at hfin
  by_cases hfl : (am_Ft ci k).2.2.2 = true
  · rw [hfl] at hfin
    simp only [Bool.not_true, Bool.false_or, Bool.and_eq_true, beq_iff_eq] at hfin
    rw [if_pos hfl] at hlay
    have hcf : m.cls = cf := by
      obtain ⟨_, _, c', _, _, _, -, -, hf', -, -, -, hown2, -⟩ := Cond.laysFinal_spec hlay
      have w1 : c' = cf := by have := hi.symm.trans hf'; simp at this; exact this.1.symm
      rw [hfin.1] at hown2
      rw [← w1]; exact Option.some.inj (hown.symm.trans hown2)
    have h6 := u_fits hfc hkC hkind (Or.inr hlay) hi (am_tyok hc k hk) hn hf
    exact W.putFinK hx hb hown (hts _ hlk) hi hst hcf (hin hfin.2) (by rw [q2]; exact h6) q1 q3 (by rw [hsl]; exact k2_hasslot (q4 k hk)) rfl rfl hd fin
  · rw [if_neg hfl] at hlay
    have h6 := u_store hfc hkC hkind hlay hi (am_tyok hc k hk) hn hf
    exact W.putK hx hb (f := f) ⟨hown, hts _ hlk, ⟨_, _, _, hi⟩, hst⟩ (by rw [q2]; exact h6) q1 q3 (by rw [hsl]; exact k2_hasslot (q4 k hk)) rfl rfl hd fin
theorem am_putf_ok {i ci k : Nat} (hX : am_Fx p s m args meth c mi) (hC : am_Cx g s) (hI : am_Inv g h H) (hl : ∀ z ∈ locs, (gH g).size ≤ z.base) (hL : am_L g ls (am_me mi).2.2.1 L)
    (hd : decode (am_me mi).2.1 pc = .ok (.putfield i, 3)) (hc : ci < 12) (hk : k < am_Nf ci) (hlk : Cond.fieldLink (am_me mi).1.cls i (am_Ft ci k).1 (am_Ft ci k).2.1 (am_Ft ci k).2.2.1 ∈ am_tb) (hfin : am_fin (am_me mi).1 ci k = true) {q : am_S} (hs : am_putf pc ci k L st h = some q) (kt : am_Kt g p l e R s m args below meth c cells slots Q mi h q) :
    W p l e R s m args below meth c H locs cells slots Q (F0 m pc ls (st.map (am_v g))) := by
  unfold am_putf at hs
  split at hs
  case isTrue hi =>
    unfold am_putI2 at hs
    split at hs
    case h_2 => cases hs
    case h_1 v a r =>
      split at hs
      case isFalse => cases hs
      case isTrue hK =>
        split at hs
        case isFalse => cases hs
        case isTrue hfit =>
          cases hs
          have h8 : a ≠ 8 := fun z => absurd (z ▸ hK.2 : 16 ≤ 8) (by decide)
          rw [List.map_cons, List.map_cons, am_v_ref h8, show am_v g (.int v) = .int v from rfl]
          have hnf : narrow (am_ty ci k) (.int v) = .int v ∧ fits (am_ty ci k) (.int v) = true := by
            unfold am_fitI at hfit
            cases ht : am_ty ci k <;> rw [ht] at hfit <;> first | exact ⟨rfl, rfl⟩ | (simp only [Bool.or_eq_true, beq_iff_eq] at hfit; rcases hfit with q | q <;> subst q <;> exact ⟨rfl, rfl⟩) | cases hfit
          refine am_putf_core hX hC hI hl hL hd hc hk hlk hfin hK.1 hK.2 hnf.1 hnf.2 (h' := am_putI h a k v) rfl rfl rfl (fun i hi => by simp [am_putI, am_row, hi]) (fun i hi => rfl) (fun j => hI.2.2.2.2.1 a j) (fun j hj => ?_) kt
          unfold am_fv updV
          by_cases e9 : j = k
          · subst e9
            rw [if_pos hi, if_pos rfl]
            simp [am_putI, am_row, upd]
          · rw [if_neg e9]
            simp [am_putI, am_row, upd, e9]
  case isFalse hi =>
    replace hs := am_rr_s hs
    obtain ⟨a, b, r, rfl, hs⟩ := hs
    split at hs
    case isFalse => cases hs
    case isTrue hK =>
      cases hs
      rw [List.map_cons, List.map_cons, am_v_ref (show a ≠ 8 by omega), am_v_ref hK.2.2]
      have hi' : am_isI (am_ty ci k) = false := by simpa using hi
      have hnf : narrow (am_ty ci k) (.ref (am_ad g b)) = .ref (am_ad g b) ∧ fits (am_ty ci k) (.ref (am_ad g b)) = true := by
        have := am_isO_of hc hk hi'
        unfold am_isO at this
        cases ht : am_ty ci k <;> rw [ht] at this <;> first | exact ⟨rfl, rfl⟩ | cases this
      refine am_putf_core hX hC hI hl hL hd hc hk hlk hfin hK.1 hK.2.1 hnf.1 hnf.2 (h' := am_putR h a k b) rfl rfl rfl (fun i hi => rfl) (fun i hi => by simp [am_putR, am_row, hi]) (fun j => ?_) (fun j hj => ?_) kt
      · show (am_row h.2.2.2.1 a (va_up (h.2.2.2.1 a) k (some b)) a) j ≠ some 8
        simp only [am_row, if_pos]
        unfold va_up
        by_cases e9 : j = k
        · rw [if_pos e9]; intro z; exact hK.2.2 (Option.some.inj z)
        · rw [if_neg e9]; exact hI.2.2.2.2.1 a j
      · unfold am_fv updV
        by_cases e9 : j = k
        · subst e9
          rw [if_neg hi, if_pos rfl]
          simp [am_putR, am_row, va_up, am_rv]
        · rw [if_neg e9]
          simp [am_putR, am_row, va_up, e9]
end AMH
