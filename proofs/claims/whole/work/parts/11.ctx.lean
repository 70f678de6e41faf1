/-! WHAT IS KNOWN OF A STATE, and stays -/
abbrev am_A (g : am_G) : Nat → Prop := fun q => (gH g).size ≤ q
def am_txt : Nat → String := fun k => match k with
  | 0 => ";+-*/()<=>"
  | _ => "rises  falls  asks   when   or     and    not    voice  height top    scared wind   minute base   lost   day    on     boy    calm   seek   trader buy    sell   of     good   by     "
def am_stv (g : am_G) : Nat → Value := fun k => match k with
  | 0 => .int 1
  | 4 => gF g
  | j => .ref (gR g j)
def am_Cx (g : am_G) (s : State) : Prop :=
  va_K (gC g, gI g) am_cls [(gA g, .int), (gW g, .object "LarkExchange$World")] s ∧
  (∀ q ∈ am_cl, q.2.2.1 = 3 ∨ q.2.2.1 = 4 → va_Nw (.methodLinkNest q.1 q.2.1 (am_me q.2.2.2.1).1 "LarkExchange") s) ∧
  va_AO "LarkExchange$World" s ∧
  (∀ k, k ≤ 4 → va_Z (am_st k).1 (am_st k).2.1 (am_st k).2.2 (am_stv g k) (am_A g) s (gH g)) ∧
  (va_X (gR g 0) (gN g) (gX g) s (gH g) ∧ gR g 0 < (gH g).size) ∧
  (∀ k, 1 ≤ k → k ≤ 3 → va_T .int (gR g k) (am_roK 0 k).2 (fun j => .int (am_roM (gX g) k j)) (am_A g) s (gH g)) ∧
  (∀ k, k < 2 → va_T .byte (gR g (5 + 2 * k)) (am_roK 0 (5 + 2 * k)).2 (fun j => .int (am_roM (gX g) (5 + 2 * k) j)) (am_A g) s (gH g) ∧
    va_O "java/lang/String" (gR g (4 + 2 * k)) (am_A g) s (gH g) ∧ va_OF "java/lang/String" "coder" "B" (.int 0) (gR g (4 + 2 * k)) (am_A g) s (gH g) ∧ va_OF "java/lang/String" "value" "[B" (.ref (gR g (5 + 2 * k))) (gR g (4 + 2 * k)) (am_A g) s (gH g) ∧
    vk_R "LarkExchange$Reader" (am_tx k) (am_txt k) (gR g (4 + 2 * k)) s) ∧
  (gF g = .null ∨ ∃ a, gF g = .ref a)
theorem am_Cx.warm {g : am_G} {s U : State} (hW : s.WarmedH U.vm) (h : am_Cx g s) : am_Cx g U := by
  obtain ⟨h1, h2, h3, h4, h5, h6, h7, h8⟩ := h
  have hA := hW.alike
  refine ⟨va_K.moved hA h1, fun q hq hk => va_Nw.warmM hW (h2 q hq hk), va_AO.moved hA h3, fun k hk => va_Z.moved hA (h4 k hk), ⟨va_X.moved hA h5.1, h5.2⟩, fun k a b => va_T.moved hA (h6 k a b), fun k hk => ?_, h8⟩
  · obtain ⟨a, b, c, d, e⟩ := h7 k hk
    exact ⟨va_T.moved hA a, va_O.moved hA b, va_OF.moved hA c, va_OF.moved hA d, vk_R.warm hW e⟩
theorem am_Cx.F {g : am_G} {s : State} (h : am_Cx g s) : (gF g).category = 1 := by
  rcases h.2.2.2.2.2.2.2 with e | ⟨a, e⟩ <;> rw [e] <;> rfl
/-- the frame of a method: machine, code, words -/
def am_Fx (p : Program) (s : State) (m : MethodId) (args : Array Value) (meth : Method) (c : Code) (mi : Nat) : Prop :=
  p.tables.exec = Jvm.exec ∧ c.code = (am_me mi).2.1 ∧ c.maxLocals = (am_me mi).2.2.1 ∧ s.vm.findClass (am_me mi).1.cls = some m.cls ∧ meth.sig.returnType = (am_me mi).2.2.2.1 ∧ meth.locks = false ∧
  ((am_me mi).1.name = "<init>" → meth.name = "<init>") ∧ ∀ w ∈ am_tb, w.before args s = true
/-- every row of a table is checked -/
theorem am_ckr_at {mi k : Nat} : ∀ (r : List (Option am_I)) (j i : Nat) (e : am_I), am_ckr mi k j r = true → r[i]? = some (some e) → am_chk mi (16 * k + (j + i)) e = true
  | [], _, _, _, _, h => by simp at h
  | none :: r, j, i, e, hc, h => by
    cases i with
    | zero => simp at h
    | succ i =>
      have := am_ckr_at r (j + 1) i e (by simpa [am_ckr] using hc) (by simpa using h)
      rw [show j + (i + 1) = j + 1 + i by omega]; exact this
  | some x :: r, j, i, e, hc, h => by
    simp only [am_ckr, Bool.and_eq_true] at hc
    cases i with
    | zero => simp at h; subst h; exact hc.1
    | succ i =>
      have := am_ckr_at r (j + 1) i e hc.2 (by simpa using h)
      rw [show j + (i + 1) = j + 1 + i by omega]; exact this
theorem am_ckm_at {mi : Nat} : ∀ (t : List (List (Option am_I))) (k a : Nat) (r : List (Option am_I)), am_ckm mi k t = true → t[a]? = some r → r.length ≤ 16 ∧ am_ckr mi (k + a) 0 r = true
  | [], _, _, _, _, h => by simp at h
  | x :: t, k, a, r, hc, h => by
    simp only [am_ckm, Bool.and_eq_true, decide_eq_true_eq] at hc
    cases a with
    | zero => simp at h; subst h; exact hc.1
    | succ a =>
      have := am_ckm_at t (k + 1) a r hc.2 (by simpa using h)
      rw [show k + (a + 1) = k + 1 + a by omega]; exact this
theorem am_code_lt {mi pc : Nat} {e : am_I} (h : am_code mi pc = some e) : mi < am_ts.length := by
  refine Nat.lt_of_not_le fun q => ?_
  unfold am_code at h
  rw [show am_ts.getD mi [] = [] by simp [List.getD, List.getElem?_eq_none q]] at h
  simp at h
set_option maxRecDepth 100000 in
theorem am_ts_len : am_ts.length = 313 := by decide +kernel
theorem am_code_ok {mi pc : Nat} {e : am_I} (h : am_code mi pc = some e) : am_chk mi pc e = true := by
  have hmi := am_code_lt h
  rw [am_ts_len] at hmi
  have hck := am_ck_all mi hmi
  unfold am_code at h
  generalize am_ts.getD mi [] = t at hck h
  rw [List.getD_eq_getElem?_getD, List.getD_eq_getElem?_getD] at h
  cases hr : t[pc / 16]? with
  | none => rw [hr] at h; simp at h
  | some r =>
    obtain ⟨-, h2⟩ := am_ckm_at _ 0 _ r hck hr
    have h3 : r[pc % 16]? = some (some e) := by
      rw [hr, Option.getD_some] at h
      cases hx : r[pc % 16]? with
      | none => rw [hx] at h; cases h
      | some o => rw [hx] at h; exact congrArg some h
    have h4 := am_ckr_at r 0 (pc % 16) e h2 h3
    rw [show 16 * (0 + pc / 16) + (0 + pc % 16) = pc by omega] at h4
    exact h4
theorem am_lkF_in {own : String} {i j : Nat} {t : String × String × String} (h : am_lkF own i j t = true) : Cond.fieldLink own i t.1 t.2.1 t.2.2 ∈ am_tb := by
  unfold am_lkF at h
  cases hq : am_fl[j]? with
  | none => simp [hq] at h
  | some q =>
    simp only [hq, Bool.and_eq_true, beq_iff_eq] at h
    have h2 := am_okw_in (List.all_eq_true.mp am_fl_ok q (List.mem_of_getElem? hq))
    obtain ⟨⟨⟨⟨e1, e2⟩, e3⟩, e4⟩, e5⟩ := h
    rw [e1, e2, e3, e4, e5] at h2
    exact h2
theorem am_lkC_in {own : String} {i j kd mi : Nat} (h : am_lkC own i j kd mi = true) : ∃ q ∈ am_cl, q.1 = own ∧ q.2.1 = i ∧ q.2.2.1 = kd ∧ q.2.2.2.1 = mi ∧ am_clw q = true := by
  unfold am_lkC at h
  cases hq : am_cl[j]? with
  | none => simp [hq] at h
  | some q =>
    simp only [hq, Bool.and_eq_true, beq_iff_eq] at h
    obtain ⟨⟨⟨e1, e2⟩, e3⟩, e4⟩ := h
    exact ⟨q, List.mem_of_getElem? hq, e1, e2, e3, e4, List.all_eq_true.mp am_cl_ok q (List.mem_of_getElem? hq)⟩
theorem am_lkN_in {own C : String} {i j : Nat} (h : am_lkN own i j C = true) : Cond.classLink own i C ∈ am_tb := by
  unfold am_lkN at h
  cases hq : am_nl[j]? with
  | none => simp [hq] at h
  | some q =>
    simp only [hq, Bool.and_eq_true, beq_iff_eq] at h
    have h2 := am_okw_in (List.all_eq_true.mp am_nl_ok q (List.mem_of_getElem? hq))
    obtain ⟨⟨e1, e2⟩, e3⟩ := h
    rw [e1, e2, e3] at h2
    exact h2
theorem am_lkK_in {own : String} {i j : Nat} {v : Int32} (h : am_lkK own i j v = true) : Cond.constant own i v ∈ am_tb := by
  unfold am_lkK at h
  cases hq : am_ct[j]? with
  | none => simp [hq] at h
  | some q =>
    simp only [hq, Bool.and_eq_true, beq_iff_eq] at h
    have h2 := am_okw_in (List.all_eq_true.mp am_ct_ok q (List.mem_of_getElem? hq))
    obtain ⟨⟨e1, e2⟩, e3⟩ := h
    rw [e1, e2, e3] at h2
    exact h2
/-! the stack's shapes -/
theorem am_i1_s {α : Type} {st : List Value} {f : Int32 → List Value → Option α} {q : α} (h : am_i1 st f = some q) : ∃ x r, st = .int x :: r ∧ f x r = some q := by
  unfold am_i1 at h; split at h
  · exact ⟨_, _, rfl, h⟩
  · cases h
theorem am_i2_s {α : Type} {st : List Value} {f : Int32 → Int32 → List Value → Option α} {q : α} (h : am_i2 st f = some q) : ∃ x y r, st = .int y :: .int x :: r ∧ f x y r = some q := by
  unfold am_i2 at h; split at h
  · exact ⟨_, _, _, rfl, h⟩
  · cases h
theorem am_l1_s {α : Type} {st : List Value} {f : Int64 → List Value → Option α} {q : α} (h : am_l1 st f = some q) : ∃ x r, st = .long x :: r ∧ f x r = some q := by
  unfold am_l1 at h; split at h
  · exact ⟨_, _, rfl, h⟩
  · cases h
theorem am_l2_s {α : Type} {st : List Value} {f : Int64 → Int64 → List Value → Option α} {q : α} (h : am_l2 st f = some q) : ∃ x y r, st = .long y :: .long x :: r ∧ f x y r = some q := by
  unfold am_l2 at h; split at h
  · exact ⟨_, _, _, rfl, h⟩
  · cases h
theorem am_r1_s {α : Type} {st : List Value} {f : Nat → List Value → Option α} {q : α} (h : am_r1 st f = some q) : ∃ (x : Nat) (r : List Value), st = .ref x :: r ∧ f x r = some q := by
  unfold am_r1 at h; split at h
  · exact ⟨_, _, rfl, h⟩
  · cases h
theorem am_ri_s {α : Type} {st : List Value} {f : Nat → Int32 → List Value → Option α} {q : α} (h : am_ri st f = some q) : ∃ (a : Nat) (i : Int32) (r : List Value), st = .int i :: .ref a :: r ∧ f a i r = some q := by
  unfold am_ri at h; split at h
  · exact ⟨_, _, _, rfl, h⟩
  · cases h
theorem am_rii_s {α : Type} {st : List Value} {f : Nat → Int32 → Int32 → List Value → Option α} {q : α} (h : am_rii st f = some q) : ∃ (a : Nat) (i v : Int32) (r : List Value), st = .int v :: .int i :: .ref a :: r ∧ f a i v r = some q := by
  unfold am_rii at h; split at h
  · exact ⟨_, _, _, _, rfl, h⟩
  · cases h
theorem am_rir_s {α : Type} {st : List Value} {f : Nat → Int32 → Nat → List Value → Option α} {q : α} (h : am_rir st f = some q) : ∃ (a : Nat) (i : Int32) (v : Nat) (r : List Value), st = .ref v :: .int i :: .ref a :: r ∧ f a i v r = some q := by
  unfold am_rir at h; split at h
  · exact ⟨_, _, _, _, rfl, h⟩
  · cases h
theorem am_rr_s {α : Type} {st : List Value} {f : Nat → Nat → List Value → Option α} {q : α} (h : am_rr st f = some q) : ∃ (a b : Nat) (r : List Value), st = .ref b :: .ref a :: r ∧ f a b r = some q := by
  unfold am_rr at h; split at h
  · exact ⟨_, _, _, rfl, h⟩
  · cases h
theorem am_at_s {i : Int32} {n : Nat} {α : Type} {r : Option α} {q : α} (h : am_at i n r = some q) : ¬ (i < 0 ∨ n ≤ i.toNatClampNeg) ∧ r = some q := by
  unfold am_at at h; split at h
  · cases h
  · exact ⟨by assumption, h⟩
theorem am_one_c {v : Value} {g : am_G} (hF : (gF g).category = 1) (h : am_one v = true) : (am_v g v).category = 1 := by
  cases v with
  | int x => rfl
  | ref i =>
    by_cases e : i = 8
    · rw [am_v_8 e, hF]
    · rw [am_v_ref e]; rfl
  | _ => cases h
