/-! THE LAW'S START: what the Statement gives, in my words -/
def am_fc : List Cond := flatC (Jvm.Cond.and given_1 narrow_1)
def am_tm : Nat → Term := fun k => .static "LarkExchange$Sums" (am_st k).2.1 "[I"
def am_fp : Nat → Nat := fun k => match k with
  | 1 => 12
  | 2 => 25
  | _ => 48
set_option maxRecDepth 100000 in
theorem am_fc_t : [1, 2, 3].all (fun k => decide (am_fc[am_fp k - 2]? = some (.arrayOf (am_tm k) .int)) && decide (am_fc[am_fp k - 1]? = some (.eq (.length (am_tm k)) (.int (Int32.ofNat (am_roK 0 k).2)))) &&
    (List.range (am_roK 0 k).2).all (fun j => decide (am_fc[am_fp k + j]? = some (.eq (.elem (am_tm k) (.int (Int32.ofNat j))) (.int (am_roM (fun _ => 0) k j)))))) = true := by decide +kernel
def am_ts2 : Nat → Term := fun k => .string "LarkExchange$Reader" (am_tx k)
def am_sl2 : List Nat := [10, 182]
def am_sb : List (List Int32) := [am_sg, am_kw]
def am_fq : Nat → Nat := fun k => match k with
  | 0 => 62
  | _ => 76
set_option maxRecDepth 100000 in
theorem am_fc_s : [0, 1].all (fun k => decide (am_fc[am_fq k - 4]? = some (.exactly (am_ts2 k) "java/lang/String")) && decide (am_fc[am_fq k - 3]? = some (.eq (.field (am_ts2 k) "java/lang/String" "coder" "B") (.int 0))) && decide (am_fc[am_fq k - 2]? = some (.arrayOf (.field (am_ts2 k) "java/lang/String" "value" "[B") .byte)) &&
    decide (am_fc[am_fq k - 1]? = some (.eq (.length (.field (am_ts2 k) "java/lang/String" "value" "[B")) (.int (Int32.ofNat (am_sl2.getD k 0)))))) = true := by decide +kernel
set_option maxRecDepth 100000 in
theorem am_fc_b0 : (List.range 10).all (fun j => decide (am_fc[62 + j]? = some (.eq (.elem (.field (am_ts2 0) "java/lang/String" "value" "[B") (.int (Int32.ofNat j))) (.int (am_sg.getD j 0))))) = true := by decide +kernel
set_option maxRecDepth 100000 in
theorem am_fc_b1 : (List.range 182).all (fun j => decide (am_fc[76 + j]? = some (.eq (.elem (.field (am_ts2 1) "java/lang/String" "value" "[B") (.int (Int32.ofNat j))) (.int (am_kw.getD j 0))))) = true := by decide +kernel
set_option maxRecDepth 100000 in
theorem am_fc_x : am_fc[4]? = some (.eq (.static "java/lang/String" "COMPACT_STRINGS" "Z") (.int 1)) ∧ am_fc[5]? = some (.isRef (.static "jdk/internal/util/Preconditions" "SIOOBE_FORMATTER" "Ljava/util/function/BiFunction;")) ∧ am_fc[258]? = some (.not (.eq (am_ts2 0) (am_ts2 1))) := by decide +kernel
def am_lsp : List Nat := [786, 1111, 1137, 1139, 825]
set_option maxRecDepth 100000 in
theorem am_ls_ok : (List.range 5).all (fun k => decide (lw_tbl[am_lsp.getD k 0]? = some (.laysStatic (am_st k).1 (am_st k).2.1 (am_st k).2.2))) = true := by decide +kernel
def am_isp : List Nat := [146, 142, 142, 142, 149]
set_option maxRecDepth 100000 in
theorem am_is_ok : (List.range 5).all (fun k => decide (lw_tbl[am_isp.getD k 0]? = some (.initialized (am_st k).1))) = true := by decide +kernel
set_option maxRecDepth 100000 in
theorem am_sr_ok : lw_tbl[772]? = some (.stringRef "LarkExchange$Reader" 115 (am_txt 0)) ∧ lw_tbl[859]? = some (.stringRef "LarkExchange$Reader" 126 (am_txt 1)) := by decide +kernel
/-- the heap at the law's start -/
def am_h0 (n : Nat) (xs : Nat → Int32) : am_H := (16, 0, fun i => if i < 16 then am_roK n i else (999, 0), am_roR, am_roM xs)
theorem am_known {s : State} {args : Array Value} (hts : ∀ w ∈ lw_tbl, w.before args s = true) : ∃ (dC : Nat → ClassId) (dI : Nat → Nat → Nat), ∀ c, c < 12 → u_Kn s (am_Rn c) (am_Ft c) (am_Nf c) (dC c) (dI c) := by
  have h : ∀ c, ∃ q : ClassId × (Nat → Nat), c < 12 → u_Kn s (am_Rn c) (am_Ft c) (am_Nf c) q.1 q.2 := by
    intro c
    by_cases hc : c < 12
    · obtain ⟨cC, iS, hk⟩ := u_known (C := am_Rn c) (T := am_Ft c) (N := am_Nf c) (n := am_Nf c) hts (fun w hw => (List.mem_filter.mp (am_lay_in hc w hw)).1) (hts _ (List.mem_filter.mp (am_ins_in hc).1).1)
      exact ⟨(cC, iS), fun _ => hk⟩
    · exact ⟨(0, fun _ => 0), fun z => absurd z hc⟩
  obtain ⟨f, hf⟩ := Classical.axiomOfChoice h
  exact ⟨fun c => (f c).1, fun c => (f c).2, hf⟩
theorem am_cls_lt {c : Nat} {q : vw_C} (h : am_cls[c]? = some q) : c < 12 := by
  have := (List.getElem?_eq_some_iff.mp h).1
  exact this
set_option maxHeartbeats 4000000 in
theorem am_Cx_start {s : State} {b L : Nat} {xs : Nat → Int32} (hts : ∀ w ∈ lw_tbl, w.before #[Value.ref b] s = true) (hX : va_X b L xs s s.heap) (hbl : b < s.heap.size) (hgv : (Jvm.Cond.and given_1 narrow_1).before #[Value.ref b] s = true) :
    ∃ g : am_G, am_Cx g s ∧ gH g = s.heap ∧ gN g = L ∧ gX g = xs ∧ gR g 0 = b := by
  have hfl : ∀ c ∈ am_fc, c.before #[Value.ref b] s = true := flat_of_before _ hgv
  obtain ⟨dC, dI, hkn⟩ := am_known hts
  obtain ⟨cI, kI, compI, f1, f2, f3⟩ := Cond.arrayClass_spec (hts _ (List.mem_filter.mp am_w_ints).1)
  have hover := hts _ am_w_over
  obtain ⟨compW, cW, kW, o1, -, o3, o4, o5⟩ := Cond.arrayOver_spec hover
  have hA : ∀ a : Nat, a < s.heap.size → ¬ (fun q : Nat => s.heap.size ≤ q) a := fun a ha => Nat.not_le.mpr ha
  -- the three tables
  have ht : ∀ k, ∃ t : Nat, 1 ≤ k → k ≤ 3 → (am_tm k).eval #[Value.ref b] s none [] s = some (.ref t) ∧ va_T .int t (am_roK 0 k).2 (fun j => .int (am_roM xs k j)) (fun q => s.heap.size ≤ q) s s.heap := by
    intro k
    by_cases hk : 1 ≤ k ∧ k ≤ 3
    · have hx := List.all_eq_true.mp am_fc_t k (by rcases (show k = 1 ∨ k = 2 ∨ k = 3 by omega) with q | q | q <;> subst q <;> simp)
      simp only [Bool.and_eq_true, decide_eq_true_eq, List.all_eq_true, List.mem_range] at hx
      obtain ⟨⟨x1, x2⟩, x3⟩ := hx
      have hlt : (am_roK 0 k).2 < 2 ^ 31 := by rcases (show k = 1 ∨ k = 2 ∨ k = 3 by omega) with q | q | q <;> subst q <;> decide
      obtain ⟨t, t1, t2⟩ := va_Tof (tm := am_tm k) (ty := .int) (f := fun j => .int (am_roM xs k j)) (A := fun q => s.heap.size ≤ q) hlt (hfl _ (List.mem_of_getElem? x1)) (va_eqt (hfl _ (List.mem_of_getElem? x2))) (fun j hj => by
        have := va_eqt (hfl _ (List.mem_of_getElem? (x3 j hj)))
        rw [this]
        rcases (show k = 1 ∨ k = 2 ∨ k = 3 by omega) with q | q | q <;> subst q <;> rfl) hA
      exact ⟨t, fun _ _ => ⟨t1, t2⟩⟩
    · exact ⟨0, fun a b => absurd ⟨a, b⟩ hk⟩
  obtain ⟨tt, htt⟩ := Classical.axiomOfChoice ht
  -- the texts
  have hsx : ∀ i : Nat, i < 2 → _ := fun i hi => List.all_eq_true.mp am_fc_s i (by rcases (show i = 0 ∨ i = 1 by omega) with q | q <;> subst q <;> simp)
  simp only [Bool.and_eq_true, decide_eq_true_eq] at hsx
  obtain ⟨adK, adV, hvk, hev⟩ := vk_Sof (args := #[Value.ref b]) (s := s) (N := 2) (tm := am_ts2) (len := am_sl2) (byt := am_sb) (A := fun q => s.heap.size ≤ q)
    (fun i hi => by rcases (show i = 0 ∨ i = 1 by omega) with q | q <;> subst q <;> decide)
    (fun i hi => hfl _ (List.mem_of_getElem? (hsx i hi).1.1.1)) (fun i hi => hfl _ (List.mem_of_getElem? (hsx i hi).1.1.2)) (fun i hi => hfl _ (List.mem_of_getElem? (hsx i hi).1.2)) (fun i hi => hfl _ (List.mem_of_getElem? (hsx i hi).2))
    (fun i hi j hj => by
      rcases (show i = 0 ∨ i = 1 by omega) with q | q <;> subst q
      · have := List.all_eq_true.mp am_fc_b0 j (List.mem_range.mpr hj)
        rw [decide_eq_true_eq] at this
        exact hfl _ (List.mem_of_getElem? this)
      · have := List.all_eq_true.mp am_fc_b1 j (List.mem_range.mpr hj)
        rw [decide_eq_true_eq] at this
        exact hfl _ (List.mem_of_getElem? this))
    (fun i j hi hj hij => by
      have h9 := hfl _ (List.mem_of_getElem? am_fc_x.2.2)
      rcases (show (i = 0 ∧ j = 1) ∨ (i = 1 ∧ j = 0) by omega) with ⟨q, r⟩ | ⟨q, r⟩ <;> subst q <;> subst r
      · exact Or.inl h9
      · exact Or.inr h9) hA
  -- the statics
  have hls : ∀ k, k ≤ 4 → (Cond.laysStatic (am_st k).1 (am_st k).2.1 (am_st k).2.2).before #[Value.ref b] s = true := fun k hk => by
    have := List.all_eq_true.mp am_ls_ok k (List.mem_range.mpr (by omega))
    rw [decide_eq_true_eq] at this
    exact hts _ (List.mem_of_getElem? this)
  have his : ∀ k, k ≤ 4 → (Cond.initialized (am_st k).1).before #[Value.ref b] s = true := fun k hk => by
    have := List.all_eq_true.mp am_is_ok k (List.mem_range.mpr (by omega))
    rw [decide_eq_true_eq] at this
    exact hts _ (List.mem_of_getElem? this)
  obtain ⟨vF, hvF, hvZ⟩ : ∃ vF : Value, (vF = .null ∨ ∃ a, vF = .ref a) ∧ va_Z (am_st 4).1 (am_st 4).2.1 (am_st 4).2.2 vF (fun q => s.heap.size ≤ q) s s.heap := by
    rcases va_Zqof (A := fun q => s.heap.size ≤ q) (hls 4 (by omega)) (his 4 (by omega)) (hfl _ (List.mem_of_getElem? am_fc_x.2.1)) hA with z | ⟨t, z⟩
    · exact ⟨.null, Or.inl rfl, z⟩
    · exact ⟨.ref t, Or.inr ⟨t, rfl⟩, z⟩
  refine ⟨(dC, dI, cI, cW, fun i => match i with
    | 0 => b
    | 1 => tt 1
    | 2 => tt 2
    | 3 => tt 3
    | 4 => adK 0
    | 5 => adV 0
    | 6 => adK 1
    | 7 => adV 1
    | _ => 0, vF, s.heap, L, xs), ⟨⟨fun c q hq => ?_, fun k q hq => ?_⟩, fun q hq hk => ?_, hover, fun k hk => ?_, ⟨hX, hbl⟩, fun k h1 h3 => ?_, fun k hk => ?_, hvF⟩, rfl, rfl, rfl, rfl⟩
  · have hc := am_cls_lt hq
    cases (am_cls_at hc).symm.trans hq
    exact hkn c hc
  · have hk2 : k < 2 := (List.getElem?_eq_some_iff.mp hq).1
    rcases (show k = 0 ∨ k = 1 by omega) with z | z <;> subst z
    · cases hq
      exact ⟨fun n z => ⟨fun k h => (by cases h), kI, f2, compI, f3⟩, f1⟩
    · cases hq
      exact ⟨fun n z => ⟨fun k h => (by cases h), kW, o3, compW, o4⟩, kW, compW, o3, o4, o1, o5⟩
  · have hw := List.all_eq_true.mp am_cl_ok q hq
    unfold am_clw at hw
    rcases hk with hk | hk <;> rw [hk] at hw <;> simp only [Bool.and_eq_true, decide_eq_true_eq] at hw
    · exact va_Nw.of rfl (hts _ (List.mem_of_getElem? hw.1.1.1))
    · exact va_Nw.of rfl (hts _ (List.mem_of_getElem? hw.1.1.1.1))
  · rcases (show k = 0 ∨ k = 1 ∨ k = 2 ∨ k = 3 ∨ k = 4 by omega) with z | z | z | z | z <;> subst z
    · exact va_Zof (hls 0 (by omega)) (his 0 (by omega)) (va_eqi (hfl _ (List.mem_of_getElem? am_fc_x.1))) hA
    · exact va_Zof (hls 1 (by omega)) (his 1 (by omega)) (htt 1 (by omega) (by omega)).1 hA
    · exact va_Zof (hls 2 (by omega)) (his 2 (by omega)) (htt 2 (by omega) (by omega)).1 hA
    · exact va_Zof (hls 3 (by omega)) (his 3 (by omega)) (htt 3 (by omega) (by omega)).1 hA
    · exact hvZ
  · rcases (show k = 1 ∨ k = 2 ∨ k = 3 by omega) with z | z | z <;> subst z
    · exact (htt 1 (by omega) (by omega)).2
    · exact (htt 2 (by omega) (by omega)).2
    · exact (htt 3 (by omega) (by omega)).2
  · rcases (show k = 0 ∨ k = 1 by omega) with z | z <;> subst z
    · obtain ⟨a1, a2, a3, a4⟩ := hvk.1 0 (by omega)
      exact ⟨a4, a1, a2, a3, vk_R.of (hts _ (List.mem_of_getElem? am_sr_ok.1)) (hev 0 (by omega))⟩
    · obtain ⟨a1, a2, a3, a4⟩ := hvk.1 1 (by omega)
      exact ⟨a4, a1, a2, a3, vk_R.of (hts _ (List.mem_of_getElem? am_sr_ok.2)) (hev 1 (by omega))⟩
