/-! A RUN, with its calls -/
set_option maxRecDepth 100000 in
theorem am_pl_ok : (am_ms.drop 1).all (fun q => plainFor q.1) = true := by decide +kernel
theorem am_pl {mi : Nat} (h1 : 1 ≤ mi) (h2 : mi < 313) : plainFor (am_me mi).1 = true := List.all_eq_true.mp am_pl_ok (am_me mi) (am_me_in mi h1 h2)
/-- what the words say of a method -/
theorem am_mew_s {mi : Nat} (h1 : 1 ≤ mi) (h2 : mi < 313) : Cond.initialized (am_me mi).1.cls ∈ am_tb ∧ ((am_me mi).2.2.2.2.2.1 = 1 → Cond.static (am_me mi).1 ∈ am_tb) ∧
    ((am_me mi).2.2.2.2.2.1 = 0 → Cond.instanceMethod (am_me mi).1 ∈ am_tb ∧ ((am_me mi).1.name = "<init>" → (am_me mi).2.2.2.1 = none) ∧ ((am_me mi).1.name ≠ "<init>" → Cond.selects (am_me mi).1.cls (am_me mi).1 (am_me mi).1 ∈ am_tb)) ∧
    ((am_me mi).1.cls ≠ "java/lang/invoke/MethodHandle" ∧ (am_me mi).1.cls ≠ "java/lang/invoke/VarHandle") ∧ (parseMethodDescriptor (am_me mi).1.desc).map (fun d => d.parameters.length + (1 - (am_me mi).2.2.2.2.2.1)) = some (am_me mi).2.2.2.2.1 ∧ (am_me mi).2.2.1 ≤ 10 ∧ (am_me mi).2.2.2.2.1 ≤ (am_me mi).2.2.1 := by
  have h := am_ms_ok mi h1 h2
  unfold am_mew at h
  simp only [Bool.and_eq_true, decide_eq_true_eq] at h
  obtain ⟨⟨⟨⟨⟨⟨⟨a1, a2⟩, a4⟩, a5⟩, a6⟩, a7⟩, a8⟩, a9⟩ := h
  refine ⟨am_okw_in a1, fun z => ?_, fun z => ?_, ⟨a4, a5⟩, a6, a7, a8⟩
  · rw [if_pos z] at a2; exact am_okw_in a2
  · rw [if_neg (by omega), Bool.and_eq_true] at a2
    refine ⟨am_okw_in a2.1, fun y => ?_, fun y => ?_⟩
    · have := a2.2; rw [if_pos y] at this; simpa using this
    · have := a2.2; rw [if_neg y] at this; exact am_okw_in this
theorem am_par {y : MethodName} {k n : Nat} (h : (parseMethodDescriptor y.desc).map (fun d => d.parameters.length + k) = some (n + k)) : (parseMethodDescriptor y.desc).map (fun d => d.parameters.length) = some n := by
  cases hd : parseMethodDescriptor y.desc with
  | none => rw [hd] at h; cases h
  | some d =>
    rw [hd] at h
    simp only [Option.map_some, Option.some.injEq] at h ⊢
    omega
theorem am_16 {a : Nat} (h : a < 16) : a = 0 ∨ a = 1 ∨ a = 2 ∨ a = 3 ∨ a = 4 ∨ a = 5 ∨ a = 6 ∨ a = 7 ∨ a = 8 ∨ a = 9 ∨ a = 10 ∨ a = 11 ∨ a = 12 ∨ a = 13 ∨ a = 14 ∨ a = 15 := by omega
section AMC
variable {g : am_G} {p : Program} {l : Launch} {e : Env} {R : Room} {s : State} {m : MethodId} {args : Array Value} {below : List Frame} {meth : Method} {c : Code} {H : Heap} {locs : List Loc} {cells slots : Nat} {Q : State → Prop} {mi pc : Nat} {L st : List Value} {ls : Array Slot} {h : am_H}
/-- behind a call -/
theorem am_behind {h1 : am_H} {v : Option Value} {mc ms : Nat} {st0 rest : List Value} (hr : va_Run p l e R s m args below meth c H locs cells slots mc ms (F0 m pc ls st0) rest (fun (_ : State) (o : Outcome) (t : State) => o = .returned v ∧ am_Inv g h1 t.heap) (am_A g))
    (hl : ∀ z ∈ locs, (gH g).size ≤ z.base) (kk : ∀ (H1 : Heap) (locs1 : List Loc), am_Inv g h1 H1 → (∀ z ∈ locs1, (gH g).size ≤ z.base) → W p l e R s m args below meth c H1 locs1 (cells + mc) (slots + ms) Q (F0 m (pc + 3) ls (v.toList ++ rest))) :
    W p l e R s m args below meth c H locs cells slots Q (F0 m pc ls st0) := by
  intro T hT X
  obtain ⟨v', st₀, t, T', L', h0, X', hL', e1, e2, ⟨hv, hI⟩, st⟩ := hr T hT X
  have hv' : v' = v := Outcome.returned.inj hv
  subst hv'
  obtain ⟨t2, a1, b1⟩ := kk T'.heap (locs ++ L') (by rw [e1]; exact hI) (fun z hz => by
    rcases List.mem_append.mp hz with hz | hz
    · exact hl z hz
    · exact hL' z hz) T' rfl X'
  exact ⟨t2, st t2 a1, b1⟩
theorem am_blind {as : List Value} : FrameBlind (fun (A : Array Value) (U : State) => A = (as.map (am_v g)).toArray ∧ am_Inv g h U.heap ∧ am_Cx g U) := by
  intro a U gg mk hq
  exact ⟨hq.1, hq.2.1, hq.2.2.warm (U := U.calling gg mk a) (State.WarmedH.refl U)⟩
/-- who is called -/
theorem am_recv {mj : Nat} {as : List Value} (hC : am_Cx g s) (hI : am_Inv g h H) (hr : am_rec mj as h = true) : ∃ (a : Nat) (r : List Value), as = .ref a :: r ∧ a ≠ 8 ∧ ∃ cellB : Cell, H[am_ad g a]? = some cellB ∧ cellB.vm.isStatics = false ∧ s.vm.findClass (am_me mj).1.cls = some cellB.cls := by
  unfold am_rec at hr
  split at hr
  case h_2 => cases hr
  case h_1 a r =>
    simp only [Bool.and_eq_true, beq_iff_eq, decide_eq_true_eq] at hr
    obtain ⟨⟨h1, h2⟩, h3⟩ := hr
    have h8 : a ≠ 8 := am_8 hI (by omega)
    refine ⟨a, r, rfl, h8, ?_⟩
    obtain ⟨ci, hci⟩ : ∃ ci, (h.2.2.1 a).1 = ci + 3 := ⟨(h.2.2.1 a).1 - 3, by omega⟩
    rw [hci, Nat.add_sub_cancel] at h1
    rcases Nat.lt_or_ge a 16 with ha | ha
    · obtain ⟨hk1, -, -⟩ := hI.2.2.1 a ha
      have hcase : ∃ j : Nat, j < 2 ∧ a = 4 + 2 * j ∧ ci = 12 := by
        rw [hk1] at hci h3
        have ha' : (a : Nat) < 16 := ha
        rcases (show (a : Nat) = 0 ∨ (a : Nat) = 1 ∨ (a : Nat) = 2 ∨ (a : Nat) = 3 ∨ (a : Nat) = 4 ∨ (a : Nat) = 5 ∨ (a : Nat) = 6 ∨ (a : Nat) = 7 ∨ (a : Nat) = 8 ∨ (a : Nat) = 9 ∨ (a : Nat) = 10 ∨ (a : Nat) = 11 ∨ (a : Nat) = 12 ∨ (a : Nat) = 13 ∨ (a : Nat) = 14 ∨ (a : Nat) = 15 from am_16 ha') with q | q | q | q | q | q | q | q | q | q | q | q | q | q | q | q <;> subst q <;> simp only [am_roK] at hci h3
        · omega
        · omega
        · omega
        · omega
        · exact ⟨0, by omega, rfl, by omega⟩
        · omega
        · exact ⟨1, by omega, rfl, by omega⟩
        all_goals omega
      obtain ⟨j, hj, rfl, rfl⟩ := hcase
      obtain ⟨-, ⟨cell, q1, q2, q3, q4⟩, -, -, -⟩ := hC.2.2.2.2.2.2.1 j hj
      rw [am_ad_small ha]
      exact ⟨cell, by rw [hI.2.1 _ (Nat.lt_of_not_le q4)]; exact q1, q2, by rw [← h1]; exact q3⟩
    · obtain ⟨hc, cell, q1, q2, q3, q4⟩ := am_obj hI hci ha (by omega)
      exact ⟨cell, q1, by rw [q3]; rfl, by rw [← h1, q2]; exact (hC.1.1 ci _ (am_cls_at hc)).2.1⟩
end AMC
