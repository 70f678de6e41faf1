section
/-! THE LAW'S CALLS, ONE BY ONE -/
def LH (Mi : am_M) : Prop := RO Mi ∧ T1 Mi ∧ T2 Mi ∧ T3 Mi
def LV (x3 : Int32) (nS : Nat) : Prop := vp_in (x3 + 1) nS ∧ vp_in (x3 + 2) nS ∧ vp_in (x3 + 3) nS ∧ vp_in (x3 + 4) nS ∧ vp_in (x3 + 5) nS
theorem lw_state {nS d c : Nat} {Mi M : am_M} {s : St} {x3 : Int32} {Q : Option Value → am_H → Prop} (hh : LH Mi) (hC : CI Mi M s) (hM : MI M s) (hG : GI c s) (hc : c ≤ 1000) (hv : LV x3 nS) (k : ∀ M2 s2, CI Mi M2 s2 → MI M2 s2 → GI (c + 1) s2 → am_Wp (d + 31) 0 1410 [.ref 0, .ref 16, .ref 205, .int x3] [] (hp nS M2) Q) : am_Wp (d + 31) 0 200 [.ref 0, .ref 16, .ref 205, .int x3] [] (hp nS M) Q := by
  rw [b_0_200 hv.1]
  refine wp_lo (p_state (d := d + 18) hC hM hG) (fun v M1 e0 kq => ?_)
  rw [am_ans_some, b_0_209 hv.1, e0]
  refine wp_mono kq (fun o2 h2 ⟨e1, M2, s2, e2, hC2, hM2, hG2⟩ => ?_)
  rw [e1, e2, am_ans_some, b_0_218, if_pos rfl]
  exact k M2 s2 hC2 hM2 hG2
theorem lw_lark {nS d c : Nat} {Mi M : am_M} {s : St} {x3 : Int32} {Q : Option Value → am_H → Prop} (hh : LH Mi) (hC : CI Mi M s) (hM : MI M s) (hG : GI c s) (hc : c ≤ 1000) (hv : LV x3 nS) (k : ∀ M2 s2, CI Mi M2 s2 → MI M2 s2 → GI (c + 1) s2 → am_Wp (d + 31) 0 1410 [.ref 0, .ref 16, .ref 205, .int x3] [] (hp nS M2) Q) : am_Wp (d + 31) 0 223 [.ref 0, .ref 16, .ref 205, .int x3] [] (hp nS M) Q := by
  rw [b_0_223 hv.1]
  refine wp_lo (p_lark (d := d + 18) hC hM hG) (fun v M1 e0 kq => ?_)
  rw [am_ans_some, b_0_232 hv.1, e0]
  refine wp_mono kq (fun o2 h2 ⟨e1, M2, s2, e2, hC2, hM2, hG2⟩ => ?_)
  rw [e1, e2, am_ans_some, b_0_241, if_pos rfl]
  exact k M2 s2 hC2 hM2 hG2
theorem lw_good {nS d c : Nat} {Mi M : am_M} {s : St} {x3 : Int32} {Q : Option Value → am_H → Prop} (hh : LH Mi) (hC : CI Mi M s) (hM : MI M s) (hG : GI c s) (hc : c ≤ 1000) (hv : LV x3 nS) (k : ∀ M2 s2, CI Mi M2 s2 → MI M2 s2 → GI (c + 1) s2 → am_Wp (d + 31) 0 1410 [.ref 0, .ref 16, .ref 205, .int x3] [] (hp nS M2) Q) : am_Wp (d + 31) 0 246 [.ref 0, .ref 16, .ref 205, .int x3] [] (hp nS M) Q := by
  rw [b_0_246 hv.1]
  refine wp_lo (p_good (d := d + 18) hC hM hG) (fun v M1 e0 kq => ?_)
  rw [am_ans_some, b_0_255 hv.1, e0]
  refine wp_mono kq (fun o2 h2 ⟨e1, M2, s2, e2, hC2, hM2, hG2⟩ => ?_)
  rw [e1, e2, am_ans_some, b_0_264, if_pos rfl]
  exact k M2 s2 hC2 hM2 hG2
theorem lw_trader {nS d c : Nat} {Mi M : am_M} {s : St} {x3 : Int32} {Q : Option Value → am_H → Prop} (hh : LH Mi) (hC : CI Mi M s) (hM : MI M s) (hG : GI c s) (hc : c ≤ 1000) (hv : LV x3 nS) (k : ∀ M2 s2, CI Mi M2 s2 → MI M2 s2 → GI (c + 1) s2 → am_Wp (d + 31) 0 1410 [.ref 0, .ref 16, .ref 205, .int x3] [] (hp nS M2) Q) : am_Wp (d + 31) 0 269 [.ref 0, .ref 16, .ref 205, .int x3] [] (hp nS M) Q := by
  rw [b_0_269 hv.1]
  refine wp_lo (p_trader (d := d + 18) hC hM hG) (fun v M1 e0 kq => ?_)
  rw [am_ans_some, b_0_278 hv.1, e0]
  refine wp_mono kq (fun o2 h2 ⟨e1, M2, s2, e2, hC2, hM2, hG2⟩ => ?_)
  rw [e1, e2, am_ans_some, b_0_287, if_pos rfl]
  exact k M2 s2 hC2 hM2 hG2
theorem lw_set {nS d c : Nat} {Mi M : am_M} {s : St} {x3 : Int32} {Q : Option Value → am_H → Prop} (hh : LH Mi) (hC : CI Mi M s) (hM : MI M s) (hG : GI c s) (hc : c ≤ 1000) (hv : LV x3 nS) (k : ∀ M2 s2, CI Mi M2 s2 → MI M2 s2 → GI (c + 1) s2 → am_Wp (d + 31) 0 1410 [.ref 0, .ref 16, .ref 205, .int x3] [] (hp nS M2) Q) : am_Wp (d + 31) 0 292 [.ref 0, .ref 16, .ref 205, .int x3] [] (hp nS M) Q := by
  rw [b_0_292 hv.1 hv.2.1 hv.2.2.1]
  refine wp_lo (p_set (d := d + 18) hC hM hG) (fun v M1 e0 kq => ?_)
  rw [am_ans_some, b_0_311 hv.1 hv.2.1 hv.2.2.1, e0]
  refine wp_mono kq (fun o2 h2 ⟨e1, M2, s2, e2, hC2, hM2, hG2⟩ => ?_)
  rw [e1, e2, am_ans_some, b_0_330, if_pos rfl]
  exact k M2 s2 hC2 hM2 hG2
theorem lw_act {nS d c : Nat} {Mi M : am_M} {s : St} {x3 : Int32} {Q : Option Value → am_H → Prop} (hh : LH Mi) (hC : CI Mi M s) (hM : MI M s) (hG : GI c s) (hc : c ≤ 1000) (hv : LV x3 nS) (k : ∀ M2 s2, CI Mi M2 s2 → MI M2 s2 → GI (c + 1) s2 → am_Wp (d + 31) 0 1410 [.ref 0, .ref 16, .ref 205, .int x3] [] (hp nS M2) Q) : am_Wp (d + 31) 0 335 [.ref 0, .ref 16, .ref 205, .int x3] [] (hp nS M) Q := by
  rw [b_0_335 hv.1 hv.2.1 hv.2.2.1]
  refine wp_lo (p_act (d := d + 18) hC hM hG hc) (fun v M1 e0 kq => ?_)
  rw [am_ans_some, b_0_354 hv.1 hv.2.1 hv.2.2.1, e0]
  refine wp_mono kq (fun o2 h2 ⟨e1, M2, s2, e2, hC2, hM2, hG2⟩ => ?_)
  rw [e1, e2, am_ans_some, b_0_373, if_pos rfl]
  exact k M2 s2 hC2 hM2 hG2
theorem lw_days {nS d c : Nat} {Mi M : am_M} {s : St} {x3 : Int32} {Q : Option Value → am_H → Prop} (hh : LH Mi) (hC : CI Mi M s) (hM : MI M s) (hG : GI c s) (hc : c ≤ 1000) (hv : LV x3 nS) (k : ∀ M2 s2, CI Mi M2 s2 → MI M2 s2 → GI (c + 1) s2 → am_Wp (d + 31) 0 1410 [.ref 0, .ref 16, .ref 205, .int x3] [] (hp nS M2) Q) : am_Wp (d + 31) 0 378 [.ref 0, .ref 16, .ref 205, .int x3] [] (hp nS M) Q := by
  rw [b_0_378 hv.1]
  refine wp_lo (p_days (d := d + 18) hC hM hG hc) (fun v M1 e0 kq => ?_)
  rw [am_ans_some, b_0_387 hv.1, e0]
  refine wp_mono kq (fun o2 h2 ⟨e1, M2, s2, e2, hC2, hM2, hG2⟩ => ?_)
  rw [e1, e2, am_ans_some, b_0_396, if_pos rfl]
  exact k M2 s2 hC2 hM2 hG2
theorem lw_feed {nS d c : Nat} {Mi M : am_M} {s : St} {x3 : Int32} {Q : Option Value → am_H → Prop} (hh : LH Mi) (hC : CI Mi M s) (hM : MI M s) (hG : GI c s) (hc : c ≤ 1000) (hv : LV x3 nS) (k : ∀ M2 s2, CI Mi M2 s2 → MI M2 s2 → GI (c + 1) s2 → am_Wp (d + 31) 0 1410 [.ref 0, .ref 16, .ref 205, .int x3] [] (hp nS M2) Q) : am_Wp (d + 31) 0 401 [.ref 0, .ref 16, .ref 205, .int x3] [] (hp nS M) Q := by
  rw [b_0_401 hv.1 hv.2.1 hv.2.2.1 hv.2.2.2.1 hv.2.2.2.2]
  refine wp_lo (p_feed (d := d + 18) hC hM hG) (fun v M1 e0 kq => ?_)
  rw [am_ans_some, b_0_430 hv.1 hv.2.1 hv.2.2.1 hv.2.2.2.1 hv.2.2.2.2, e0]
  refine wp_mono kq (fun o2 h2 ⟨e1, M2, s2, e2, hC2, hM2, hG2⟩ => ?_)
  rw [e1, e2, am_ans_some, b_0_459, if_pos rfl]
  exact k M2 s2 hC2 hM2 hG2
theorem lw_end {nS d c : Nat} {Mi M : am_M} {s : St} {x3 : Int32} {Q : Option Value → am_H → Prop} (hh : LH Mi) (hC : CI Mi M s) (hM : MI M s) (hG : GI c s) (hc : c ≤ 1000) (hv : LV x3 nS) (k : ∀ M2 s2, CI Mi M2 s2 → MI M2 s2 → GI (c + 1) s2 → am_Wp (d + 31) 0 1410 [.ref 0, .ref 16, .ref 205, .int x3] [] (hp nS M2) Q) : am_Wp (d + 31) 0 464 [.ref 0, .ref 16, .ref 205, .int x3] [] (hp nS M) Q := by
  rw [b_0_464 hv.1]
  refine wp_lo (p_end (d := d + 18) hC hM hG) (fun v M1 e0 kq => ?_)
  rw [am_ans_some, b_0_473 hv.1, e0]
  refine wp_mono kq (fun o2 h2 ⟨e1, M2, s2, e2, hC2, hM2, hG2⟩ => ?_)
  rw [e1, e2, am_ans_some, b_0_482, if_pos rfl]
  exact k M2 s2 hC2 hM2 hG2
theorem lw_text {nS d c : Nat} {Mi M : am_M} {s : St} {x3 : Int32} {Q : Option Value → am_H → Prop} (hh : LH Mi) (hC : CI Mi M s) (hM : MI M s) (hG : GI c s) (hc : c ≤ 1000) (hv : LV x3 nS) (k : ∀ M2 s2, CI Mi M2 s2 → MI M2 s2 → GI (c + 1) s2 → am_Wp (d + 31) 0 1410 [.ref 0, .ref 16, .ref 205, .int x3] [] (hp nS M2) Q) : am_Wp (d + 31) 0 487 [.ref 0, .ref 16, .ref 205, .int x3] [] (hp nS M) Q := by
  rw [b_0_487 hv.1]
  refine wp_lo (p_text (d := d + 6) hh.1 hC hM hG) (fun v M1 e0 kq => ?_)
  rw [am_ans_some, b_0_496 hv.1, e0]
  refine wp_mono kq (fun o2 h2 ⟨e1, M2, s2, e2, hC2, hM2, hG2⟩ => ?_)
  rw [e1, e2, am_ans_some, b_0_505, if_pos rfl]
  exact k M2 s2 hC2 hM2 hG2
theorem lw_fault {nS d c : Nat} {Mi M : am_M} {s : St} {x3 : Int32} {Q : Option Value → am_H → Prop} (hh : LH Mi) (hC : CI Mi M s) (hM : MI M s) (hG : GI c s) (hc : c ≤ 1000) (hv : LV x3 nS) (k : ∀ M2 s2, CI Mi M2 s2 → MI M2 s2 → GI (c + 1) s2 → am_Wp (d + 31) 0 1410 [.ref 0, .ref 16, .ref 205, .int x3] [] (hp nS M2) Q) : am_Wp (d + 31) 0 510 [.ref 0, .ref 16, .ref 205, .int x3] [] (hp nS M) Q := by
  rw [b_0_510 hv.1]
  refine wp_lo (p_fault (d := d + 18) hC hM hG) (fun v M1 e0 kq => ?_)
  rw [am_ans_some, b_0_519 hv.1, e0]
  refine wp_mono kq (fun o2 h2 ⟨e1, M2, s2, e2, hC2, hM2, hG2⟩ => ?_)
  rw [e1, e2, am_ans_some, b_0_528, if_pos rfl]
  exact k M2 s2 hC2 hM2 hG2
theorem lw_of {nS d c : Nat} {Mi M : am_M} {s : St} {x3 : Int32} {Q : Option Value → am_H → Prop} (hh : LH Mi) (hC : CI Mi M s) (hM : MI M s) (hG : GI c s) (hc : c ≤ 1000) (hv : LV x3 nS) (k : ∀ M2 s2, CI Mi M2 s2 → MI M2 s2 → GI (c + 1) s2 → am_Wp (d + 31) 0 1410 [.ref 0, .ref 16, .ref 205, .int x3] [] (hp nS M2) Q) : am_Wp (d + 31) 0 533 [.ref 0, .ref 16, .ref 205, .int x3] [] (hp nS M) Q := by
  rw [b_0_533 hv.1 hv.2.1]
  refine wp_lo (p_of (d := d + 18) hC hM hG) (fun v M1 e0 kq => ?_)
  rw [am_ans_some, b_0_547 hv.1 hv.2.1, e0]
  refine wp_mono kq (fun o2 h2 ⟨e1, M2, s2, e2, hC2, hM2, hG2⟩ => ?_)
  rw [e1, e2, am_ans_some, b_0_561, if_pos rfl]
  exact k M2 s2 hC2 hM2 hG2
theorem lw_goodOf {nS d c : Nat} {Mi M : am_M} {s : St} {x3 : Int32} {Q : Option Value → am_H → Prop} (hh : LH Mi) (hC : CI Mi M s) (hM : MI M s) (hG : GI c s) (hc : c ≤ 1000) (hv : LV x3 nS) (k : ∀ M2 s2, CI Mi M2 s2 → MI M2 s2 → GI (c + 1) s2 → am_Wp (d + 31) 0 1410 [.ref 0, .ref 16, .ref 205, .int x3] [] (hp nS M2) Q) : am_Wp (d + 31) 0 566 [.ref 0, .ref 16, .ref 205, .int x3] [] (hp nS M) Q := by
  rw [b_0_566 hv.1 hv.2.1]
  refine wp_lo (p_goodOf (d := d + 18) hC hM hG) (fun v M1 e0 kq => ?_)
  rw [am_ans_some, b_0_580 hv.1 hv.2.1, e0]
  refine wp_mono kq (fun o2 h2 ⟨e1, M2, s2, e2, hC2, hM2, hG2⟩ => ?_)
  rw [e1, e2, am_ans_some, b_0_594, if_pos rfl]
  exact k M2 s2 hC2 hM2 hG2
theorem lw_who {nS d c : Nat} {Mi M : am_M} {s : St} {x3 : Int32} {Q : Option Value → am_H → Prop} (hh : LH Mi) (hC : CI Mi M s) (hM : MI M s) (hG : GI c s) (hc : c ≤ 1000) (hv : LV x3 nS) (k : ∀ M2 s2, CI Mi M2 s2 → MI M2 s2 → GI (c + 1) s2 → am_Wp (d + 31) 0 1410 [.ref 0, .ref 16, .ref 205, .int x3] [] (hp nS M2) Q) : am_Wp (d + 31) 0 599 [.ref 0, .ref 16, .ref 205, .int x3] [] (hp nS M) Q := by
  rw [b_0_599 hv.1 hv.2.1]
  refine wp_lo (p_who (d := d + 18) hC hM hG) (fun v M1 e0 kq => ?_)
  rw [am_ans_some, b_0_613 hv.1 hv.2.1, e0]
  refine wp_mono kq (fun o2 h2 ⟨e1, M2, s2, e2, hC2, hM2, hG2⟩ => ?_)
  rw [e1, e2, am_ans_some, b_0_627, if_pos rfl]
  exact k M2 s2 hC2 hM2 hG2
theorem lw_book {nS d c : Nat} {Mi M : am_M} {s : St} {x3 : Int32} {Q : Option Value → am_H → Prop} (hh : LH Mi) (hC : CI Mi M s) (hM : MI M s) (hG : GI c s) (hc : c ≤ 1000) (hv : LV x3 nS) (k : ∀ M2 s2, CI Mi M2 s2 → MI M2 s2 → GI (c + 1) s2 → am_Wp (d + 31) 0 1410 [.ref 0, .ref 16, .ref 205, .int x3] [] (hp nS M2) Q) : am_Wp (d + 31) 0 632 [.ref 0, .ref 16, .ref 205, .int x3] [] (hp nS M) Q := by
  rw [b_0_632 hv.1 hv.2.1]
  refine wp_lo (p_book (d := d + 18) hC hM hG) (fun v M1 e0 kq => ?_)
  rw [am_ans_some, b_0_646 hv.1 hv.2.1, e0]
  refine wp_mono kq (fun o2 h2 ⟨e1, M2, s2, e2, hC2, hM2, hG2⟩ => ?_)
  rw [e1, e2, am_ans_some, b_0_660, if_pos rfl]
  exact k M2 s2 hC2 hM2 hG2
theorem lw_goes {nS d c : Nat} {Mi M : am_M} {s : St} {x3 : Int32} {Q : Option Value → am_H → Prop} (hh : LH Mi) (hC : CI Mi M s) (hM : MI M s) (hG : GI c s) (hc : c ≤ 1000) (hv : LV x3 nS) (k : ∀ M2 s2, CI Mi M2 s2 → MI M2 s2 → GI (c + 1) s2 → am_Wp (d + 31) 0 1410 [.ref 0, .ref 16, .ref 205, .int x3] [] (hp nS M2) Q) : am_Wp (d + 31) 0 665 [.ref 0, .ref 16, .ref 205, .int x3] [] (hp nS M) Q := by
  rw [b_0_665 hv.1 hv.2.1]
  refine wp_lo (p_goes (d := d + 18) hC hM hG hc) (fun v M1 e0 kq => ?_)
  rw [am_ans_some, b_0_679 hv.1 hv.2.1, e0]
  refine wp_mono kq (fun o2 h2 ⟨e1, M2, s2, e2, hC2, hM2, hG2⟩ => ?_)
  rw [e1, e2, am_ans_some, b_0_693, if_pos rfl]
  exact k M2 s2 hC2 hM2 hG2
theorem lw_ruin {nS d c : Nat} {Mi M : am_M} {s : St} {x3 : Int32} {Q : Option Value → am_H → Prop} (hh : LH Mi) (hC : CI Mi M s) (hM : MI M s) (hG : GI c s) (hc : c ≤ 1000) (hv : LV x3 nS) (k : ∀ M2 s2, CI Mi M2 s2 → MI M2 s2 → GI (c + 1) s2 → am_Wp (d + 31) 0 1410 [.ref 0, .ref 16, .ref 205, .int x3] [] (hp nS M2) Q) : am_Wp (d + 31) 0 698 [.ref 0, .ref 16, .ref 205, .int x3] [] (hp nS M) Q := by
  rw [b_0_698 hv.1]
  refine wp_lo (p_ruin (d := d + 18) hC hM hG hc) (fun v M1 e0 kq => ?_)
  rw [am_ans_some, b_0_707 hv.1, e0]
  refine wp_mono kq (fun o2 h2 ⟨e1, M2, s2, e2, hC2, hM2, hG2⟩ => ?_)
  rw [e1, e2, am_ans_some, b_0_716, if_pos rfl]
  exact k M2 s2 hC2 hM2 hG2
theorem lw_price {nS d c : Nat} {Mi M : am_M} {s : St} {x3 : Int32} {Q : Option Value → am_H → Prop} (hh : LH Mi) (hC : CI Mi M s) (hM : MI M s) (hG : GI c s) (hc : c ≤ 1000) (hv : LV x3 nS) (k : ∀ M2 s2, CI Mi M2 s2 → MI M2 s2 → GI (c + 1) s2 → am_Wp (d + 31) 0 1410 [.ref 0, .ref 16, .ref 205, .int x3] [] (hp nS M2) Q) : am_Wp (d + 31) 0 721 [.ref 0, .ref 16, .ref 205, .int x3] [] (hp nS M) Q := by
  rw [b_0_721 hv.1]
  refine wp_lo (p_price (d := d + 18) hC hM hG) (fun v M1 e0 kq => ?_)
  rw [am_ans_some, b_0_730 hv.1, e0]
  refine wp_mono kq (fun o2 h2 ⟨e1, M2, s2, e2, hC2, hM2, hG2⟩ => ?_)
  rw [e1, e2, am_ans_some, b_0_739, if_pos rfl]
  exact k M2 s2 hC2 hM2 hG2
theorem lw_trading {nS d c : Nat} {Mi M : am_M} {s : St} {x3 : Int32} {Q : Option Value → am_H → Prop} (hh : LH Mi) (hC : CI Mi M s) (hM : MI M s) (hG : GI c s) (hc : c ≤ 1000) (hv : LV x3 nS) (k : ∀ M2 s2, CI Mi M2 s2 → MI M2 s2 → GI (c + 1) s2 → am_Wp (d + 31) 0 1410 [.ref 0, .ref 16, .ref 205, .int x3] [] (hp nS M2) Q) : am_Wp (d + 31) 0 744 [.ref 0, .ref 16, .ref 205, .int x3] [] (hp nS M) Q := by
  rw [b_0_744 hv.1 hv.2.1]
  refine wp_lo (p_trading (d := d + 18) hC hM hG) (fun v M1 e0 kq => ?_)
  rw [am_ans_some, b_0_758 hv.1 hv.2.1, e0]
  refine wp_mono kq (fun o2 h2 ⟨e1, M2, s2, e2, hC2, hM2, hG2⟩ => ?_)
  rw [e1, e2, am_ans_some, b_0_772, if_pos rfl]
  exact k M2 s2 hC2 hM2 hG2
theorem lw_change {nS d c : Nat} {Mi M : am_M} {s : St} {x3 : Int32} {Q : Option Value → am_H → Prop} (hh : LH Mi) (hC : CI Mi M s) (hM : MI M s) (hG : GI c s) (hc : c ≤ 1000) (hv : LV x3 nS) (k : ∀ M2 s2, CI Mi M2 s2 → MI M2 s2 → GI (c + 1) s2 → am_Wp (d + 31) 0 1410 [.ref 0, .ref 16, .ref 205, .int x3] [] (hp nS M2) Q) : am_Wp (d + 31) 0 777 [.ref 0, .ref 16, .ref 205, .int x3] [] (hp nS M) Q := by
  rw [b_0_777 hv.1 hv.2.1 hv.2.2.1]
  refine wp_lo (p_change (d := d + 18) hC hM hG) (fun v M1 e0 kq => ?_)
  rw [am_ans_some, b_0_796 hv.1 hv.2.1 hv.2.2.1, e0]
  refine wp_mono kq (fun o2 h2 ⟨e1, M2, s2, e2, hC2, hM2, hG2⟩ => ?_)
  rw [e1, e2, am_ans_some, b_0_815, if_pos rfl]
  exact k M2 s2 hC2 hM2 hG2
theorem lw_round {nS d c : Nat} {Mi M : am_M} {s : St} {x3 : Int32} {Q : Option Value → am_H → Prop} (hh : LH Mi) (hC : CI Mi M s) (hM : MI M s) (hG : GI c s) (hc : c ≤ 1000) (hv : LV x3 nS) (k : ∀ M2 s2, CI Mi M2 s2 → MI M2 s2 → GI (c + 1) s2 → am_Wp (d + 31) 0 1410 [.ref 0, .ref 16, .ref 205, .int x3] [] (hp nS M2) Q) : am_Wp (d + 31) 0 820 [.ref 0, .ref 16, .ref 205, .int x3] [] (hp nS M) Q := by
  rw [b_0_820 hv.1 hv.2.1]
  refine wp_lo (p_round (d := d + 18) hC hM hG) (fun v M1 e0 kq => ?_)
  rw [am_ans_some, b_0_834 hv.1 hv.2.1, e0]
  refine wp_mono kq (fun o2 h2 ⟨e1, M2, s2, e2, hC2, hM2, hG2⟩ => ?_)
  rw [e1, e2, am_ans_some, b_0_848, if_pos rfl]
  exact k M2 s2 hC2 hM2 hG2
theorem lw_parts {nS d c : Nat} {Mi M : am_M} {s : St} {x3 : Int32} {Q : Option Value → am_H → Prop} (hh : LH Mi) (hC : CI Mi M s) (hM : MI M s) (hG : GI c s) (hc : c ≤ 1000) (hv : LV x3 nS) (k : ∀ M2 s2, CI Mi M2 s2 → MI M2 s2 → GI (c + 1) s2 → am_Wp (d + 31) 0 1410 [.ref 0, .ref 16, .ref 205, .int x3] [] (hp nS M2) Q) : am_Wp (d + 31) 0 853 [.ref 0, .ref 16, .ref 205, .int x3] [] (hp nS M) Q := by
  rw [b_0_853 hv.1 hv.2.1 hv.2.2.1]
  refine wp_lo (p_parts (d := d + 18) hC hM hG) (fun v M1 e0 kq => ?_)
  rw [am_ans_some, b_0_872 hv.1 hv.2.1 hv.2.2.1, e0]
  refine wp_mono kq (fun o2 h2 ⟨e1, M2, s2, e2, hC2, hM2, hG2⟩ => ?_)
  rw [e1, e2, am_ans_some, b_0_891, if_pos rfl]
  exact k M2 s2 hC2 hM2 hG2
theorem lw_loaves {nS d c : Nat} {Mi M : am_M} {s : St} {x3 : Int32} {Q : Option Value → am_H → Prop} (hh : LH Mi) (hC : CI Mi M s) (hM : MI M s) (hG : GI c s) (hc : c ≤ 1000) (hv : LV x3 nS) (k : ∀ M2 s2, CI Mi M2 s2 → MI M2 s2 → GI (c + 1) s2 → am_Wp (d + 31) 0 1410 [.ref 0, .ref 16, .ref 205, .int x3] [] (hp nS M2) Q) : am_Wp (d + 31) 0 896 [.ref 0, .ref 16, .ref 205, .int x3] [] (hp nS M) Q := by
  rw [b_0_896 hv.1 hv.2.1 hv.2.2.1]
  refine wp_lo (p_loaves (d := d + 18) hC hM hG) (fun v M1 e0 kq => ?_)
  rw [am_ans_some, b_0_915 hv.1 hv.2.1 hv.2.2.1, e0]
  refine wp_mono kq (fun o2 h2 ⟨e1, M2, s2, e2, hC2, hM2, hG2⟩ => ?_)
  rw [e1, e2, am_ans_some, b_0_934, if_pos rfl]
  exact k M2 s2 hC2 hM2 hG2
theorem lw_sticks {nS d c : Nat} {Mi M : am_M} {s : St} {x3 : Int32} {Q : Option Value → am_H → Prop} (hh : LH Mi) (hC : CI Mi M s) (hM : MI M s) (hG : GI c s) (hc : c ≤ 1000) (hv : LV x3 nS) (k : ∀ M2 s2, CI Mi M2 s2 → MI M2 s2 → GI (c + 1) s2 → am_Wp (d + 31) 0 1410 [.ref 0, .ref 16, .ref 205, .int x3] [] (hp nS M2) Q) : am_Wp (d + 31) 0 939 [.ref 0, .ref 16, .ref 205, .int x3] [] (hp nS M) Q := by
  rw [b_0_939 hv.1 hv.2.1]
  refine wp_lo (p_sticks (d := d + 18) hC hM hG hh.2.1) (fun v M1 e0 kq => ?_)
  rw [am_ans_some, b_0_953 hv.1 hv.2.1, e0]
  refine wp_mono kq (fun o2 h2 ⟨e1, M2, s2, e2, hC2, hM2, hG2⟩ => ?_)
  rw [e1, e2, am_ans_some, b_0_967, if_pos rfl]
  exact k M2 s2 hC2 hM2 hG2
theorem lw_twos {nS d c : Nat} {Mi M : am_M} {s : St} {x3 : Int32} {Q : Option Value → am_H → Prop} (hh : LH Mi) (hC : CI Mi M s) (hM : MI M s) (hG : GI c s) (hc : c ≤ 1000) (hv : LV x3 nS) (k : ∀ M2 s2, CI Mi M2 s2 → MI M2 s2 → GI (c + 1) s2 → am_Wp (d + 31) 0 1410 [.ref 0, .ref 16, .ref 205, .int x3] [] (hp nS M2) Q) : am_Wp (d + 31) 0 972 [.ref 0, .ref 16, .ref 205, .int x3] [] (hp nS M) Q := by
  rw [b_0_972 hv.1 hv.2.1]
  refine wp_lo (p_twos (d := d + 18) hC hM hG) (fun v M1 e0 kq => ?_)
  rw [am_ans_some, b_0_986 hv.1 hv.2.1, e0]
  refine wp_mono kq (fun o2 h2 ⟨e1, M2, s2, e2, hC2, hM2, hG2⟩ => ?_)
  rw [e1, e2, am_ans_some, b_0_1000, if_pos rfl]
  exact k M2 s2 hC2 hM2 hG2
theorem lw_words {nS d c : Nat} {Mi M : am_M} {s : St} {x3 : Int32} {Q : Option Value → am_H → Prop} (hh : LH Mi) (hC : CI Mi M s) (hM : MI M s) (hG : GI c s) (hc : c ≤ 1000) (hv : LV x3 nS) (k : ∀ M2 s2, CI Mi M2 s2 → MI M2 s2 → GI (c + 1) s2 → am_Wp (d + 31) 0 1410 [.ref 0, .ref 16, .ref 205, .int x3] [] (hp nS M2) Q) : am_Wp (d + 31) 0 1005 [.ref 0, .ref 16, .ref 205, .int x3] [] (hp nS M) Q := by
  rw [b_0_1005 hv.1 hv.2.1]
  refine wp_lo (p_words (d := d + 18) hC hM hG hh.2.2.1 hh.2.2.2) (fun v M1 e0 kq => ?_)
  rw [am_ans_some, b_0_1019 hv.1 hv.2.1, e0]
  refine wp_mono kq (fun o2 h2 ⟨e1, M2, s2, e2, hC2, hM2, hG2⟩ => ?_)
  rw [e1, e2, am_ans_some, b_0_1033, if_pos rfl]
  exact k M2 s2 hC2 hM2 hG2
theorem lw_window {nS d c : Nat} {Mi M : am_M} {s : St} {x3 : Int32} {Q : Option Value → am_H → Prop} (hh : LH Mi) (hC : CI Mi M s) (hM : MI M s) (hG : GI c s) (hc : c ≤ 1000) (hv : LV x3 nS) (k : ∀ M2 s2, CI Mi M2 s2 → MI M2 s2 → GI (c + 1) s2 → am_Wp (d + 31) 0 1410 [.ref 0, .ref 16, .ref 205, .int x3] [] (hp nS M2) Q) : am_Wp (d + 31) 0 1038 [.ref 0, .ref 16, .ref 205, .int x3] [] (hp nS M) Q := by
  rw [b_0_1038 hv.1 hv.2.1]
  refine wp_lo (p_window (d := d + 18) hC hM hG) (fun v M1 e0 kq => ?_)
  rw [am_ans_some, b_0_1052 hv.1 hv.2.1, e0]
  refine wp_mono kq (fun o2 h2 ⟨e1, M2, s2, e2, hC2, hM2, hG2⟩ => ?_)
  rw [e1, e2, am_ans_some, b_0_1066, if_pos rfl]
  exact k M2 s2 hC2 hM2 hG2
theorem lw_row {nS d c : Nat} {Mi M : am_M} {s : St} {x3 : Int32} {Q : Option Value → am_H → Prop} (hh : LH Mi) (hC : CI Mi M s) (hM : MI M s) (hG : GI c s) (hc : c ≤ 1000) (hv : LV x3 nS) (k : ∀ M2 s2, CI Mi M2 s2 → MI M2 s2 → GI (c + 1) s2 → am_Wp (d + 31) 0 1410 [.ref 0, .ref 16, .ref 205, .int x3] [] (hp nS M2) Q) : am_Wp (d + 31) 0 1071 [.ref 0, .ref 16, .ref 205, .int x3] [] (hp nS M) Q := by
  rw [b_0_1071 hv.1]
  refine wp_lo (p_row (d := d + 18) hC hM hG) (fun v M1 e0 kq => ?_)
  rw [am_ans_some, b_0_1080 hv.1, e0]
  refine wp_mono kq (fun o2 h2 ⟨e1, M2, s2, e2, hC2, hM2, hG2⟩ => ?_)
  rw [e1, e2, am_ans_some, b_0_1089, if_pos rfl]
  exact k M2 s2 hC2 hM2 hG2
theorem lw_fifths {nS d c : Nat} {Mi M : am_M} {s : St} {x3 : Int32} {Q : Option Value → am_H → Prop} (hh : LH Mi) (hC : CI Mi M s) (hM : MI M s) (hG : GI c s) (hc : c ≤ 1000) (hv : LV x3 nS) (k : ∀ M2 s2, CI Mi M2 s2 → MI M2 s2 → GI (c + 1) s2 → am_Wp (d + 31) 0 1410 [.ref 0, .ref 16, .ref 205, .int x3] [] (hp nS M2) Q) : am_Wp (d + 31) 0 1094 [.ref 0, .ref 16, .ref 205, .int x3] [] (hp nS M) Q := by
  rw [b_0_1094 hv.1 hv.2.1]
  refine wp_lo (p_fifths (d := d + 18) hC hM hG) (fun v M1 e0 kq => ?_)
  rw [am_ans_some, b_0_1108 hv.1 hv.2.1, e0]
  refine wp_mono kq (fun o2 h2 ⟨e1, M2, s2, e2, hC2, hM2, hG2⟩ => ?_)
  rw [e1, e2, am_ans_some, b_0_1122, if_pos rfl]
  exact k M2 s2 hC2 hM2 hG2
theorem lw_way {nS d c : Nat} {Mi M : am_M} {s : St} {x3 : Int32} {Q : Option Value → am_H → Prop} (hh : LH Mi) (hC : CI Mi M s) (hM : MI M s) (hG : GI c s) (hc : c ≤ 1000) (hv : LV x3 nS) (k : ∀ M2 s2, CI Mi M2 s2 → MI M2 s2 → GI (c + 1) s2 → am_Wp (d + 31) 0 1410 [.ref 0, .ref 16, .ref 205, .int x3] [] (hp nS M2) Q) : am_Wp (d + 31) 0 1127 [.ref 0, .ref 16, .ref 205, .int x3] [] (hp nS M) Q := by
  rw [b_0_1127 hv.1 hv.2.1]
  refine wp_lo (p_way (d := d + 18) hC hM hG) (fun v M1 e0 kq => ?_)
  rw [am_ans_some, b_0_1141 hv.1 hv.2.1, e0]
  refine wp_mono kq (fun o2 h2 ⟨e1, M2, s2, e2, hC2, hM2, hG2⟩ => ?_)
  rw [e1, e2, am_ans_some, b_0_1155, if_pos rfl]
  exact k M2 s2 hC2 hM2 hG2
theorem lw_caught {nS d c : Nat} {Mi M : am_M} {s : St} {x3 : Int32} {Q : Option Value → am_H → Prop} (hh : LH Mi) (hC : CI Mi M s) (hM : MI M s) (hG : GI c s) (hc : c ≤ 1000) (hv : LV x3 nS) (k : ∀ M2 s2, CI Mi M2 s2 → MI M2 s2 → GI (c + 1) s2 → am_Wp (d + 31) 0 1410 [.ref 0, .ref 16, .ref 205, .int x3] [] (hp nS M2) Q) : am_Wp (d + 31) 0 1160 [.ref 0, .ref 16, .ref 205, .int x3] [] (hp nS M) Q := by
  rw [b_0_1160 hv.1 hv.2.1]
  refine wp_lo (p_caught (d := d + 18) hC hM hG) (fun v M1 e0 kq => ?_)
  rw [am_ans_some, b_0_1174 hv.1 hv.2.1, e0]
  refine wp_mono kq (fun o2 h2 ⟨e1, M2, s2, e2, hC2, hM2, hG2⟩ => ?_)
  rw [e1, e2, am_ans_some, b_0_1188, if_pos rfl]
  exact k M2 s2 hC2 hM2 hG2
theorem lw_sack {nS d c : Nat} {Mi M : am_M} {s : St} {x3 : Int32} {Q : Option Value → am_H → Prop} (hh : LH Mi) (hC : CI Mi M s) (hM : MI M s) (hG : GI c s) (hc : c ≤ 1000) (hv : LV x3 nS) (k : ∀ M2 s2, CI Mi M2 s2 → MI M2 s2 → GI (c + 1) s2 → am_Wp (d + 31) 0 1410 [.ref 0, .ref 16, .ref 205, .int x3] [] (hp nS M2) Q) : am_Wp (d + 31) 0 1193 [.ref 0, .ref 16, .ref 205, .int x3] [] (hp nS M) Q := by
  rw [b_0_1193 hv.1 hv.2.1]
  refine wp_lo (p_sack (d := d + 18) hC hM hG) (fun v M1 e0 kq => ?_)
  rw [am_ans_some, b_0_1207 hv.1 hv.2.1, e0]
  refine wp_mono kq (fun o2 h2 ⟨e1, M2, s2, e2, hC2, hM2, hG2⟩ => ?_)
  rw [e1, e2, am_ans_some, b_0_1221, if_pos rfl]
  exact k M2 s2 hC2 hM2 hG2
theorem lw_packed {nS d c : Nat} {Mi M : am_M} {s : St} {x3 : Int32} {Q : Option Value → am_H → Prop} (hh : LH Mi) (hC : CI Mi M s) (hM : MI M s) (hG : GI c s) (hc : c ≤ 1000) (hv : LV x3 nS) (k : ∀ M2 s2, CI Mi M2 s2 → MI M2 s2 → GI (c + 1) s2 → am_Wp (d + 31) 0 1410 [.ref 0, .ref 16, .ref 205, .int x3] [] (hp nS M2) Q) : am_Wp (d + 31) 0 1226 [.ref 0, .ref 16, .ref 205, .int x3] [] (hp nS M) Q := by
  rw [b_0_1226 hv.1 hv.2.1]
  refine wp_lo (p_packed (d := d + 18) hC hM hG) (fun v M1 e0 kq => ?_)
  rw [am_ans_some, b_0_1240 hv.1 hv.2.1, e0]
  refine wp_mono kq (fun o2 h2 ⟨e1, M2, s2, e2, hC2, hM2, hG2⟩ => ?_)
  rw [e1, e2, am_ans_some, b_0_1254, if_pos rfl]
  exact k M2 s2 hC2 hM2 hG2
theorem lw_shares {nS d c : Nat} {Mi M : am_M} {s : St} {x3 : Int32} {Q : Option Value → am_H → Prop} (hh : LH Mi) (hC : CI Mi M s) (hM : MI M s) (hG : GI c s) (hc : c ≤ 1000) (hv : LV x3 nS) (k : ∀ M2 s2, CI Mi M2 s2 → MI M2 s2 → GI (c + 1) s2 → am_Wp (d + 31) 0 1410 [.ref 0, .ref 16, .ref 205, .int x3] [] (hp nS M2) Q) : am_Wp (d + 31) 0 1259 [.ref 0, .ref 16, .ref 205, .int x3] [] (hp nS M) Q := by
  rw [b_0_1259 hv.1 hv.2.1]
  refine wp_lo (p_shares (d := d + 18) hC hM hG) (fun v M1 e0 kq => ?_)
  rw [am_ans_some, b_0_1273 hv.1 hv.2.1, e0]
  refine wp_mono kq (fun o2 h2 ⟨e1, M2, s2, e2, hC2, hM2, hG2⟩ => ?_)
  rw [e1, e2, am_ans_some, b_0_1287, if_pos rfl]
  exact k M2 s2 hC2 hM2 hG2
theorem lw_game {nS d c : Nat} {Mi M : am_M} {s : St} {x3 : Int32} {Q : Option Value → am_H → Prop} (hh : LH Mi) (hC : CI Mi M s) (hM : MI M s) (hG : GI c s) (hc : c ≤ 1000) (hv : LV x3 nS) (k : ∀ M2 s2, CI Mi M2 s2 → MI M2 s2 → GI (c + 1) s2 → am_Wp (d + 31) 0 1410 [.ref 0, .ref 16, .ref 205, .int x3] [] (hp nS M2) Q) : am_Wp (d + 31) 0 1292 [.ref 0, .ref 16, .ref 205, .int x3] [] (hp nS M) Q := by
  rw [b_0_1292 hv.1 hv.2.1 hv.2.2.1]
  refine wp_lo (p_game (d := d + 18) hC hM hG) (fun v M1 e0 kq => ?_)
  rw [am_ans_some, b_0_1311 hv.1 hv.2.1 hv.2.2.1, e0]
  refine wp_mono kq (fun o2 h2 ⟨e1, M2, s2, e2, hC2, hM2, hG2⟩ => ?_)
  rw [e1, e2, am_ans_some, b_0_1330, if_pos rfl]
  exact k M2 s2 hC2 hM2 hG2
theorem lw_undo {nS d c : Nat} {Mi M : am_M} {s : St} {x3 : Int32} {Q : Option Value → am_H → Prop} (hh : LH Mi) (hC : CI Mi M s) (hM : MI M s) (hG : GI c s) (hc : c ≤ 1000) (hv : LV x3 nS) (k : ∀ M2 s2, CI Mi M2 s2 → MI M2 s2 → GI (c + 1) s2 → am_Wp (d + 31) 0 1410 [.ref 0, .ref 16, .ref 205, .int x3] [] (hp nS M2) Q) : am_Wp (d + 31) 0 1335 [.ref 0, .ref 16, .ref 205, .int x3] [] (hp nS M) Q := by
  rw [b_0_1335]
  refine wp_lo (p_undo (d := d + 18) hC hM hG) (fun v M1 e0 kq => ?_)
  rw [am_ans_some, b_0_1339]
  refine wp_mono kq (fun o2 h2 ⟨e1, M2, s2, e2, hC2, hM2, hG2⟩ => ?_)
  rw [e1, e2, am_ans_some, b_0_1343, if_pos rfl]
  exact k M2 s2 hC2 hM2 hG2
theorem lw_image {nS d c : Nat} {Mi M : am_M} {s : St} {x3 : Int32} {Q : Option Value → am_H → Prop} (hh : LH Mi) (hC : CI Mi M s) (hM : MI M s) (hG : GI c s) (hc : c ≤ 1000) (hv : LV x3 nS) (k : ∀ M2 s2, CI Mi M2 s2 → MI M2 s2 → GI (c + 1) s2 → am_Wp (d + 31) 0 1410 [.ref 0, .ref 16, .ref 205, .int x3] [] (hp nS M2) Q) : am_Wp (d + 31) 0 1348 [.ref 0, .ref 16, .ref 205, .int x3] [] (hp nS M) Q := by
  rw [b_0_1348 hv.1]
  by_cases c0 : M 0 (x3 + 1).toNatClampNeg = 0
  · rw [if_pos c0, b_0_1361, b_0_1362]
    refine wp_lo (show prS nS (d + 30) c Mi 164 [.ref 16, .int 0] 290 [.ref 205, .int 0, .retAddr 0] M from p_image (d := d + 18) (b := false) hC hM hG) (fun v M1 e0 kq => ?_)
    rw [am_ans_some, b_0_1365 hv.1, e0, if_pos c0, b_0_1378, b_0_1379]
    refine wp_mono kq (fun o2 h2 ⟨e1, M2, s2, e2, hC2, hM2, hG2⟩ => ?_)
    rw [e1, e2, am_ans_some, b_0_1382, if_pos rfl]
    exact k M2 s2 hC2 hM2 hG2
  · rw [if_neg c0, b_0_1357, b_0_1362]
    refine wp_lo (show prS nS (d + 30) c Mi 164 [.ref 16, .int 1] 290 [.ref 205, .int 1, .retAddr 0] M from p_image (d := d + 18) (b := true) hC hM hG) (fun v M1 e0 kq => ?_)
    rw [am_ans_some, b_0_1365 hv.1, e0, if_neg c0, b_0_1374, b_0_1379]
    refine wp_mono kq (fun o2 h2 ⟨e1, M2, s2, e2, hC2, hM2, hG2⟩ => ?_)
    rw [e1, e2, am_ans_some, b_0_1382, if_pos rfl]
    exact k M2 s2 hC2 hM2 hG2
theorem lw_look {nS d c : Nat} {Mi M : am_M} {s : St} {x3 : Int32} {Q : Option Value → am_H → Prop} (hh : LH Mi) (hC : CI Mi M s) (hM : MI M s) (hG : GI c s) (hc : c ≤ 1000) (hv : LV x3 nS) (k : ∀ M2 s2, CI Mi M2 s2 → MI M2 s2 → GI (c + 1) s2 → am_Wp (d + 31) 0 1410 [.ref 0, .ref 16, .ref 205, .int x3] [] (hp nS M2) Q) : am_Wp (d + 31) 0 1387 [.ref 0, .ref 16, .ref 205, .int x3] [] (hp nS M) Q := by
  rw [b_0_1387 hv.1]
  refine wp_lo (p_look (d := d + 18) hC hM hG) (fun v M1 e0 kq => ?_)
  rw [am_ans_some, b_0_1396 hv.1, e0]
  refine wp_mono kq (fun o2 h2 ⟨e1, M2, s2, e2, hC2, hM2, hG2⟩ => ?_)
  rw [e1, e2, am_ans_some, b_0_1405, if_pos rfl]
  exact k M2 s2 hC2 hM2 hG2
end
section
/-! THE LAW'S LOOP -/
theorem lw_test {nS i : Nat} (hN : nS ≤ 3072) (hi : i ≤ 4000) : (Int32.ofNat nS - 6 < nI i) = (nS < i + 6) := by
  by_cases h : 6 ≤ nS
  · have e : Int32.ofNat nS - 6 = nI (nS - 6) := pk_sub (b := 6) h
    rw [e, lt_n (by omega) (by omega)]
    exact propext ⟨fun z => by omega, fun z => by omega⟩
  · have z : Int32.ofNat nS - 6 < 0 := by
      rcases (show nS = 0 ∨ nS = 1 ∨ nS = 2 ∨ nS = 3 ∨ nS = 4 ∨ nS = 5 by omega) with q | q | q | q | q | q <;> subst q <;> decide
    exact propext ⟨fun _ => by omega, fun _ => Int32.lt_of_lt_of_le z (n0 (by omega))⟩
theorem x_not {z : Int32} (h : ∀ n : Nat, n < 38 → z = nI n → False) : z.toInt < 0 ∨ 37 < z.toInt := by
  by_cases h0 : z.toInt < 0
  · exact Or.inl h0
  by_cases h1 : 37 < z.toInt
  · exact Or.inr h1
  exfalso
  refine h z.toInt.toNat (by omega) (Int32.toInt_inj.mp ?_)
  rw [nI_toInt (by omega)]
  omega
theorem lw_loop {nS d : Nat} {Mi : am_M} {Q : Option Value → am_H → Prop} (hN : nS ≤ 3072) (hh : LH Mi) (hQ : ∀ M, Q (some (.int 1)) (hp nS M)) : ∀ m c M s, nS ≤ 6 * (c + m) → c ≤ 512 → CI Mi M s → MI M s → GI c s → am_Wp (d + 31) 0 18 [.ref 0, .ref 16, .ref 205, .int (nI (6 * c))] [] (hp nS M) Q := by
  intro m
  induction m with
  | zero =>
    intro c M s hm hc hC hM hG
    rw [b_0_18, if_pos (by rw [lw_test hN (by omega)]; omega), b_0_1416]
    exact hQ M
  | succ m ih =>
    intro c M s hm hc hC hM hG
    by_cases ht : nS < 6 * c + 6
    · rw [b_0_18, if_pos (by rw [lw_test hN (by omega)]; exact ht), b_0_1416]
      exact hQ M
    rw [b_0_18, if_neg (by rw [lw_test hN (by omega)]; exact ht), b_0_27 (in_n (by omega) (by omega))]
    have a1 : nI (6 * c) + 1 = nI (6 * c + 1) := nI_add _ 1
    have a2 : nI (6 * c) + 2 = nI (6 * c + 2) := nI_add _ 2
    have a3 : nI (6 * c) + 3 = nI (6 * c + 3) := nI_add _ 3
    have a4 : nI (6 * c) + 4 = nI (6 * c + 4) := nI_add _ 4
    have a5 : nI (6 * c) + 5 = nI (6 * c + 5) := nI_add _ 5
    have a6 : nI (6 * c) + 6 = nI (6 * (c + 1)) := nI_add _ 6
    have hv : LV (nI (6 * c)) nS := ⟨by rw [a1]; exact in_n (by omega) (by omega), by rw [a2]; exact in_n (by omega) (by omega), by rw [a3]; exact in_n (by omega) (by omega), by rw [a4]; exact in_n (by omega) (by omega), by rw [a5]; exact in_n (by omega) (by omega)⟩
    have hc' : c ≤ 1000 := by omega
    have k : ∀ M2 s2, CI Mi M2 s2 → MI M2 s2 → GI (c + 1) s2 → am_Wp (d + 31) 0 1410 [.ref 0, .ref 16, .ref 205, .int (nI (6 * c))] [] (hp nS M2) Q := fun M2 s2 hC2 hM2 hG2 => by
      rw [b_0_1410, a6]
      exact ih (c + 1) M2 s2 (by omega) (by omega) hC2 hM2 hG2
    generalize M 0 (nI (6 * c)).toNatClampNeg &&& 63 = z
    by_cases c0 : z = 0
    · rw [c0, s33_0]; exact lw_state hh hC hM hG hc' hv k
    by_cases c1 : z = 1
    · rw [c1, s33_1]; exact lw_lark hh hC hM hG hc' hv k
    by_cases c2 : z = 2
    · rw [c2, s33_2]; exact lw_good hh hC hM hG hc' hv k
    by_cases c3 : z = 3
    · rw [c3, s33_3]; exact lw_trader hh hC hM hG hc' hv k
    by_cases c4 : z = 4
    · rw [c4, s33_4]; exact lw_set hh hC hM hG hc' hv k
    by_cases c5 : z = 5
    · rw [c5, s33_5]; exact lw_act hh hC hM hG hc' hv k
    by_cases c6 : z = 6
    · rw [c6, s33_6]; exact lw_days hh hC hM hG hc' hv k
    by_cases c7 : z = 7
    · rw [c7, s33_7]; exact lw_feed hh hC hM hG hc' hv k
    by_cases c8 : z = 8
    · rw [c8, s33_8]; exact lw_end hh hC hM hG hc' hv k
    by_cases c9 : z = 9
    · rw [c9, s33_9]; exact lw_text hh hC hM hG hc' hv k
    by_cases c10 : z = 10
    · rw [c10, s33_10]; exact lw_fault hh hC hM hG hc' hv k
    by_cases c11 : z = 11
    · rw [c11, s33_11]; exact lw_of hh hC hM hG hc' hv k
    by_cases c12 : z = 12
    · rw [c12, s33_12]; exact lw_goodOf hh hC hM hG hc' hv k
    by_cases c13 : z = 13
    · rw [c13, s33_13]; exact lw_who hh hC hM hG hc' hv k
    by_cases c14 : z = 14
    · rw [c14, s33_14]; exact lw_book hh hC hM hG hc' hv k
    by_cases c15 : z = 15
    · rw [c15, s33_15]; exact lw_goes hh hC hM hG hc' hv k
    by_cases c16 : z = 16
    · rw [c16, s33_16]; exact lw_ruin hh hC hM hG hc' hv k
    by_cases c17 : z = 17
    · rw [c17, s33_17]; exact lw_price hh hC hM hG hc' hv k
    by_cases c18 : z = 18
    · rw [c18, s33_18]; exact lw_trading hh hC hM hG hc' hv k
    by_cases c19 : z = 19
    · rw [c19, s33_19]; exact lw_change hh hC hM hG hc' hv k
    by_cases c20 : z = 20
    · rw [c20, s33_20]; exact lw_round hh hC hM hG hc' hv k
    by_cases c21 : z = 21
    · rw [c21, s33_21]; exact lw_parts hh hC hM hG hc' hv k
    by_cases c22 : z = 22
    · rw [c22, s33_22]; exact lw_loaves hh hC hM hG hc' hv k
    by_cases c23 : z = 23
    · rw [c23, s33_23]; exact lw_sticks hh hC hM hG hc' hv k
    by_cases c24 : z = 24
    · rw [c24, s33_24]; exact lw_twos hh hC hM hG hc' hv k
    by_cases c25 : z = 25
    · rw [c25, s33_25]; exact lw_words hh hC hM hG hc' hv k
    by_cases c26 : z = 26
    · rw [c26, s33_26]; exact lw_window hh hC hM hG hc' hv k
    by_cases c27 : z = 27
    · rw [c27, s33_27]; exact lw_row hh hC hM hG hc' hv k
    by_cases c28 : z = 28
    · rw [c28, s33_28]; exact lw_fifths hh hC hM hG hc' hv k
    by_cases c29 : z = 29
    · rw [c29, s33_29]; exact lw_way hh hC hM hG hc' hv k
    by_cases c30 : z = 30
    · rw [c30, s33_30]; exact lw_caught hh hC hM hG hc' hv k
    by_cases c31 : z = 31
    · rw [c31, s33_31]; exact lw_sack hh hC hM hG hc' hv k
    by_cases c32 : z = 32
    · rw [c32, s33_32]; exact lw_packed hh hC hM hG hc' hv k
    by_cases c33 : z = 33
    · rw [c33, s33_33]; exact lw_shares hh hC hM hG hc' hv k
    by_cases c34 : z = 34
    · rw [c34, s33_34]; exact lw_game hh hC hM hG hc' hv k
    by_cases c35 : z = 35
    · rw [c35, s33_35]; exact lw_undo hh hC hM hG hc' hv k
    by_cases c36 : z = 36
    · rw [c36, s33_36]; exact lw_image hh hC hM hG hc' hv k
    by_cases c37 : z = 37
    · rw [c37, s33_37]; exact lw_look hh hC hM hG hc' hv k
    rw [s33_d (x_not (fun n hn e => ?_))]
    · exact k M s hC hM (GI_mono hG (by omega))
    · rcases (show n = 0 ∨ n = 1 ∨ n = 2 ∨ n = 3 ∨ n = 4 ∨ n = 5 ∨ n = 6 ∨ n = 7 ∨ n = 8 ∨ n = 9 ∨ n = 10 ∨ n = 11 ∨ n = 12 ∨ n = 13 ∨ n = 14 ∨ n = 15 ∨ n = 16 ∨ n = 17 ∨ n = 18 ∨ n = 19 ∨ n = 20 ∨ n = 21 ∨ n = 22 ∨ n = 23 ∨ n = 24 ∨ n = 25 ∨ n = 26 ∨ n = 27 ∨ n = 28 ∨ n = 29 ∨ n = 30 ∨ n = 31 ∨ n = 32 ∨ n = 33 ∨ n = 34 ∨ n = 35 ∨ n = 36 ∨ n = 37 by omega) with q | q | q | q | q | q | q | q | q | q | q | q | q | q | q | q | q | q | q | q | q | q | q | q | q | q | q | q | q | q | q | q | q | q | q | q | q | q
      · subst q; exact c0 e
      · subst q; exact c1 e
      · subst q; exact c2 e
      · subst q; exact c3 e
      · subst q; exact c4 e
      · subst q; exact c5 e
      · subst q; exact c6 e
      · subst q; exact c7 e
      · subst q; exact c8 e
      · subst q; exact c9 e
      · subst q; exact c10 e
      · subst q; exact c11 e
      · subst q; exact c12 e
      · subst q; exact c13 e
      · subst q; exact c14 e
      · subst q; exact c15 e
      · subst q; exact c16 e
      · subst q; exact c17 e
      · subst q; exact c18 e
      · subst q; exact c19 e
      · subst q; exact c20 e
      · subst q; exact c21 e
      · subst q; exact c22 e
      · subst q; exact c23 e
      · subst q; exact c24 e
      · subst q; exact c25 e
      · subst q; exact c26 e
      · subst q; exact c27 e
      · subst q; exact c28 e
      · subst q; exact c29 e
      · subst q; exact c30 e
      · subst q; exact c31 e
      · subst q; exact c32 e
      · subst q; exact c33 e
      · subst q; exact c34 e
      · subst q; exact c35 e
      · subst q; exact c36 e
      · subst q; exact c37 e
end
