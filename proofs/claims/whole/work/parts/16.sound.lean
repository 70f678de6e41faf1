/-! A RUN of my machine is one of the real one -/
theorem am_step_mono {i : Instr} {len r1 r2 r3 pc : Nat} {L st : List Value} {h : am_H} {q : am_S} (hs : am_step (i, len, r1, r2, r3) pc L st h = some q) : h.1 ≤ q.2.2.2.1 ∧ h.2.1 ≤ q.2.2.2.2.1 := by
  cases i <;> simp only [am_step, am_i1, am_i2, am_l1, am_l2, am_r1, am_ri, am_rii, am_rir, am_rr, am_ldI, am_ldL, am_ldA, am_sto, am_stL, am_stA, am_getf, am_putf, am_putI2, am_if, am_cmp, am_br, am_at, am_tsw, reduceCtorEq] at hs
  all_goals (repeat' split at hs)
  all_goals first | (cases hs; done) | (cases hs; exact ⟨Nat.le_refl _, Nat.le_refl _⟩) | (cases hs; exact ⟨Nat.le_succ _, Nat.le_add_right _ _⟩)
theorem am_copy_mono {pc : Nat} {L st : List Value} {h : am_H} {q : am_S} (hs : am_copy pc L st h = some q) : h.1 ≤ q.2.2.2.1 ∧ h.2.1 ≤ q.2.2.2.2.1 := by
  unfold am_copy at hs
  repeat' split at hs
  all_goals first | (cases hs; done) | (cases hs; exact ⟨Nat.le_refl _, Nat.le_refl _⟩)
theorem am_retV_s {mi : Nat} {st : List Value} {h h' : am_H} {r : Option Value} (hs : am_retV mi st h = some (r, h')) : st = [] ∧ (am_me mi).2.2.2.1 = none ∧ r = none ∧ h' = h := by
  unfold am_retV at hs
  split at hs
  · split at hs
    · rename_i h1; cases hs; exact ⟨rfl, h1, rfl, rfl⟩
    · cases hs
  · cases hs
theorem am_retI_s {mi : Nat} {st : List Value} {h h' : am_H} {r : Option Value} (hs : am_retI mi st h = some (r, h')) : ∃ v t, st = [.int v] ∧ (am_me mi).2.2.2.1 = some t ∧ narrow t (.int v) = .int v ∧ r = some (.int v) ∧ h' = h := by
  unfold am_retI at hs
  split at hs
  · rename_i v
    split at hs
    · rename_i t h1
      split at hs
      · rename_i h2
        cases hs
        refine ⟨v, t, rfl, h1, ?_, rfl, rfl⟩
        unfold am_rok at h2
        cases t <;> first | rfl | (simp only [Bool.or_eq_true, beq_iff_eq] at h2; rcases h2 with z | z <;> subst z <;> rfl) | exact of_decide_eq_true h2
      · cases hs
    · cases hs
  · cases hs
theorem am_mono : ∀ (n d mi pc : Nat) (L st : List Value) (h : am_H) (r : Option Value) (h' : am_H), am_ex n d mi pc L st h = some (r, h') → h.1 ≤ h'.1 ∧ h.2.1 ≤ h'.2.1
  | 0, _, _, _, _, _, _, _, _, hs => by cases hs
  | n + 1, d, mi, pc, L, st, h, r, h', hs => by
    have ih := am_mono n
    simp only [am_ex] at hs
    split at hs
    · cases hs
    · rename_i e he
      obtain ⟨i, len, r1, r2, r3⟩ := e
      unfold am_go at hs
      split at hs
      · split at hs
        · cases hs
        · rename_i q hq
          have h1 := am_step_mono hq
          have h2 := ih _ _ _ _ _ _ _ _ hs
          exact ⟨Nat.le_trans h1.1 h2.1, Nat.le_trans h1.2 h2.2⟩
      · split at hs
        · obtain ⟨-, -, -, rfl⟩ := am_retV_s hs
          exact ⟨Nat.le_refl _, Nat.le_refl _⟩
        · split at hs
          · obtain ⟨v, t, -, -, -, -, rfl⟩ := am_retI_s hs
            exact ⟨Nat.le_refl _, Nat.le_refl _⟩
          · unfold am_cal at hs
            split at hs
            · cases hs
            · split at hs
              · replace hs := am_r1_s hs
                obtain ⟨a, r', rfl, hs⟩ := hs
                split at hs
                · exact ih _ _ _ _ _ _ _ _ hs
                · cases hs
              · split at hs
                · split at hs
                  · cases hs
                  · rename_i q hq
                    have h1 := am_copy_mono hq
                    have h2 := ih _ _ _ _ _ _ _ _ hs
                    exact ⟨Nat.le_trans h1.1 h2.1, Nat.le_trans h1.2 h2.2⟩
                · split at hs
                  · cases hs
                  · split at hs
                    · split at hs
                      · cases hs
                      · rename_i w hw
                        have h1 := ih _ _ _ _ _ _ w.1 w.2 hw
                        have h2 := ih _ _ _ _ _ _ _ _ hs
                        exact ⟨Nat.le_trans h1.1 h2.1, Nat.le_trans h1.2 h2.2⟩
                    · cases hs
/-- a method's end, at one of its return instructions -/
def am_end (mi pc : Nat) (r : Option Value) : Prop := (r = none ∧ decode (am_me mi).2.1 pc = .ok (.return_, 1) ∧ (am_me mi).2.2.2.1 = none) ∨ ∃ (v : Int32) (t : FieldType), r = some (.int v) ∧ decode (am_me mi).2.1 pc = .ok (.ireturn, 1) ∧ (am_me mi).2.2.2.1 = some t ∧ narrow t (.int v) = .int v
/-- what soundness says of n steps -/
def am_Snd (g : am_G) (l : Launch) (n : Nat) : Prop := ∀ (d mi pc : Nat) (L st : List Value) (h : am_H) (r : Option Value) (h' : am_H), am_ex n d mi pc L st h = some (r, h') →
  ∀ (p : Program) (e : Env) (R : Room) (s : State) (m : MethodId) (args : Array Value) (below : List Frame) (meth : Method) (c : Code) (H : Heap) (locs : List Loc) (cells slots : Nat) (Q : State → Prop) (ls : Array Slot),
    am_Fx p s m args meth c mi → am_Cx g s → d ≤ R.frames → 64 * d ≤ R.locals → cells + (h'.1 - h.1) ≤ R.cells → slots + (h'.2.1 - h.2.1) ≤ R.slots → am_Inv g h H → (∀ z ∈ locs, (gH g).size ≤ z.base) → am_L g ls (am_me mi).2.2.1 L →
    (∀ (H' : Heap) (locs' : List Loc) (pc' : Nat) (ls' : Array Slot), am_Inv g h' H' → (∀ z ∈ locs', (gH g).size ≤ z.base) → am_end mi pc' r → W p l e R s m args below meth c H' locs' (cells + (h'.1 - h.1)) (slots + (h'.2.1 - h.2.1)) Q (F0 m pc' ls' r.toList)) →
    W p l e R s m args below meth c H locs cells slots Q (F0 m pc ls (st.map (am_v g)))
theorem am_sl {g : am_G} (hF : (gF g).category = 1) : ∀ (as : List Value), as.all am_one = true → lg_sl (as.map (am_v g)) = (as.map (am_v g)).map Slot.val
  | [], _ => rfl
  | v :: as, h => by
    rw [List.all_cons, Bool.and_eq_true] at h
    have h1 := am_one_c (g := g) hF h.1
    show (if (am_v g v).category = 2 then [Slot.val (am_v g v), Slot.second] else [Slot.val (am_v g v)]) ++ lg_sl (as.map (am_v g)) = _
    rw [if_neg (by omega), am_sl hF as h.2]
    rfl
theorem am_ent_L {g : am_G} (hF : (gF g).category = 1) {mi : Nat} {as : List Value} (h1 : as.all am_one = true) (h2 : as.length ≤ (am_me mi).2.2.1) :
    am_L g ((lg_sl (as.map (am_v g)) ++ List.replicate ((am_me mi).2.2.1 - (lg_sl (as.map (am_v g))).length) Slot.unset).toArray) (am_me mi).2.2.1 (am_ent mi as) := by
  have hsl := am_sl hF as h1
  have hlen : (lg_sl (as.map (am_v g))).length = as.length := by rw [hsl]; simp
  have he := lv_entry (as.map (am_v g)) (n := (am_me mi).2.2.1) (by rw [hlen]; exact h2)
  refine ⟨he.1, by unfold am_ent; simp; omega, he.2.1, fun i v hv hr => ?_⟩
  unfold am_ent at hv
  rw [List.getElem?_append] at hv
  split at hv
  · rename_i hi
    rw [List.getElem?_toArray, List.getElem?_append_left (by rw [hlen]; exact hi), hsl, List.getElem?_map, List.getElem?_map, hv]
    rfl
  · rw [List.getElem?_replicate] at hv
    split at hv
    · cases hv; exact absurd rfl (hr 0)
    · cases hv
/-- a method's contract, out of a run -/
theorem am_met {g : am_G} {l : Launch} {n : Nat} (ih : am_Snd g l n) {d mi : Nat} {as : List Value} {h h1 : am_H} {v : Option Value} (hm1 : 1 ≤ mi) (hm2 : mi < 313) (hpl : plainFor (am_me mi).1 = true) (hone : as.all am_one = true) (hlen : as.length ≤ (am_me mi).2.2.1) (hF : (gF g).category = 1) (hr : am_ex n d mi 0 (am_ent mi as) [] h = some (v, h1)) :
    Met l (am_me mi).1 (Cond.code (am_me mi).1 (am_me mi).2.1 (am_me mi).2.2.1 (am_me mi).2.2.2.1 :: am_tb) ({ frames := d, cells := h1.1 - h.1, slots := h1.2.1 - h.2.1, locals := 64 * d }) (fun A U => A = (as.map (am_v g)).toArray ∧ am_Inv g h U.heap ∧ am_Cx g U)
      (fun _ _ o t => o = .returned v ∧ am_Inv g h1 t.heap) (h1.1 - h.1) (h1.2.1 - h.2.1) (am_A g) := by
  refine va_MetF (cc := (am_me mi).2.1) (maxL := (am_me mi).2.2.1) (ret := (am_me mi).2.2.2.1) hpl rfl ?_
  intro p e s m args below meth c s₁ B hml hv
  obtain ⟨rfl, hI, hC⟩ := hv
  have hts := atoms_spec (ws := Cond.code (am_me mi).1 (am_me mi).2.1 (am_me mi).2.2.1 (am_me mi).2.2.2.1 :: am_tb) B.pre
  have hX : am_Fx p s m ((as.map (am_v g)).toArray) meth c mi := ⟨B.exec, B.bytes, hml, findClass_of_methodNamed B.named, B.returns, B.notSynchronized, fun z => (name_of_methodNamed B.named B.method).1.trans z, fun w hw => hts w (List.mem_cons_of_mem _ hw)⟩
  rw [lg_entry_eq]
  have hlocks := B.notSynchronized
  refine ih d mi 0 (am_ent mi as) [] h v h1 hr p e _ s m _ below meth c s.heap [] 0 0 _ _ hX hC (Nat.le_refl _) (Nat.le_refl _) (by rw [Nat.zero_add]; exact Nat.le_refl _) (by rw [Nat.zero_add]; exact Nat.le_refl _) hI (fun z hz => by cases hz) (am_ent_L hF hone hlen) ?_
  intro H' locs' pc' ls' hI' hl' hend
  rw [Nat.zero_add, Nat.zero_add]
  rcases hend with ⟨rfl, hd, hrt⟩ | ⟨w, t, rfl, hd, hrt, hnw⟩
  · exact W.vret B.exec B.bytes (B.returns.trans hrt) (fun t ht hW => ⟨rfl, by rw [ht]; exact hI'⟩) hl' hd
  · exact W.zret B.exec B.bytes (B.returns.trans hrt) hnw (fun t ht hW => ⟨rfl, by rw [ht]; exact hI'⟩) hl' hd
