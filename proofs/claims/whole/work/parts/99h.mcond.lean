section
/-! CONDITIONS, as the model reads them: what waits stands on a pile -/
def cnN : List Nat → Nat
  | [] => 0
  | x :: S => cnN S + (if x = 9 ∨ x = 12 then 1 else 0)
def cbr : List Nat → Nat
  | [] => 0
  | x :: S => cbr S + (if x = 12 then 1 else 0)
theorem cbr_le : ∀ S : List Nat, cbr S ≤ S.length
  | [] => Nat.le_refl _
  | x :: S => by
    have := cbr_le S
    rw [cbr, List.length_cons]
    by_cases h : x = 12
    · rw [if_pos h]; omega
    · rw [if_neg h]; omega
def SN (r : Nat → Int32) : List Nat → Prop
  | [] => True
  | x :: S => r S.length = nI x ∧ SN r S
theorem SN_up {r : Nat → Int32} {k : Nat} {v : Int32} : ∀ {S : List Nat}, SN r S → S.length ≤ k → SN (upd r k v) S
  | [], _, _ => trivial
  | x :: S, h, hk => by
    rw [List.length_cons] at hk
    exact ⟨by rw [upd_ne _ _ (by omega)]; exact h.1, SN_up h.2 (by omega)⟩
abbrev PQ (tp : Nat → Nat) (n N j : Nat) (c : CS) (S : List Nat) (M0 M : am_M) : Prop := (AT tp n j M) ∧ (j ≤ N) ∧ (M 205 29 = nI c.1) ∧ (∀ i, i < c.1 → M 219 (800 + i) = opM (c.2 i)) ∧ (∀ i, i < c.1 → M 220 (800 + i) = arM (c.2 i)) ∧ (M 205 32 = nI S.length) ∧ (SN (M 221) S) ∧ (M 205 30 = nI (cnN S)) ∧ (∀ a k, ¬ ((a = 205 ∧ (k = 16 ∨ k = 17 ∨ k = 18 ∨ k = 19 ∨ k = 29 ∨ k = 30 ∨ k = 32)) ∨ a = 221 ∨ ((a = 219 ∨ a = 220) ∧ 800 ≤ k)) → M a k = M0 a k)
theorem PQ.a {tp : Nat → Nat} {n N j : Nat} {c : CS} {S : List Nat} {M0 M : am_M} (zz : PQ tp n N j c S M0 M) : AT tp n j M := zz.1
theorem PQ.jn {tp : Nat → Nat} {n N j : Nat} {c : CS} {S : List Nat} {M0 M : am_M} (zz : PQ tp n N j c S M0 M) : j ≤ N := zz.2.1
theorem PQ.u {tp : Nat → Nat} {n N j : Nat} {c : CS} {S : List Nat} {M0 M : am_M} (zz : PQ tp n N j c S M0 M) : M 205 29 = nI c.1 := zz.2.2.1
theorem PQ.op {tp : Nat → Nat} {n N j : Nat} {c : CS} {S : List Nat} {M0 M : am_M} (zz : PQ tp n N j c S M0 M) : ∀ i, i < c.1 → M 219 (800 + i) = opM (c.2 i) := zz.2.2.2.1
theorem PQ.ar {tp : Nat → Nat} {n N j : Nat} {c : CS} {S : List Nat} {M0 M : am_M} (zz : PQ tp n N j c S M0 M) : ∀ i, i < c.1 → M 220 (800 + i) = arM (c.2 i) := zz.2.2.2.2.1
theorem PQ.pl {tp : Nat → Nat} {n N j : Nat} {c : CS} {S : List Nat} {M0 M : am_M} (zz : PQ tp n N j c S M0 M) : M 205 32 = nI S.length := zz.2.2.2.2.2.1
theorem PQ.pr {tp : Nat → Nat} {n N j : Nat} {c : CS} {S : List Nat} {M0 M : am_M} (zz : PQ tp n N j c S M0 M) : SN (M 221) S := zz.2.2.2.2.2.2.1
theorem PQ.po {tp : Nat → Nat} {n N j : Nat} {c : CS} {S : List Nat} {M0 M : am_M} (zz : PQ tp n N j c S M0 M) : M 205 30 = nI (cnN S) := zz.2.2.2.2.2.2.2.1
theorem PQ.f {tp : Nat → Nat} {n N j : Nat} {c : CS} {S : List Nat} {M0 M : am_M} (zz : PQ tp n N j c S M0 M) : ∀ a k, ¬ ((a = 205 ∧ (k = 16 ∨ k = 17 ∨ k = 18 ∨ k = 19 ∨ k = 29 ∨ k = 30 ∨ k = 32)) ∨ a = 221 ∨ ((a = 219 ∨ a = 220) ∧ 800 ≤ k)) → M a k = M0 a k := zz.2.2.2.2.2.2.2.2
theorem PQ_M {tp : Nat → Nat} {n N j : Nat} {c : CS} {S : List Nat} {M0 M : am_M} (h : PQ tp n N j c S M0 M) : PM tp n N j c M M := ⟨h.a, h.jn, h.u, h.op, h.ar, fun _ _ _ => rfl⟩
theorem PQ_t {tp : Nat → Nat} {n N j : Nat} {c : CS} {S : List Nat} {M0 M : am_M} (hT : TT tp n N M0) (h : PQ tp n N j c S M0 M) : TT tp n N M := ⟨⟨by rw [h.f _ _ (by omega)]; exact hT.m.n, fun k hk => by rw [h.f _ _ (by omega)]; exact hT.m.t k hk, hT.m.l, hT.m.b, fun k hk => by rw [h.f _ _ (by omega)]; exact hT.m.w k hk⟩, hT.e⟩
theorem PQ_P {tp : Nat → Nat} {n N j j' : Nat} {c c' : CS} {S : List Nat} {M0 M M' : am_M} (h : PQ tp n N j c S M0 M) (h' : PM tp n N j' c' M M') : PQ tp n N j' c' S M0 M' := ⟨h'.a, h'.jn, h'.u, h'.op, h'.ar, by rw [h'.f _ _ (by omega)]; exact h.pl, by rw [show M' 221 = M 221 from funext fun k => h'.f _ _ (by omega)]; exact h.pr, by rw [h'.f _ _ (by omega)]; exact h.po, fun a k hk => by rw [h'.f _ _ (by omega)]; exact h.f a k hk⟩
theorem FM_P {tp : Nat → Nat} {n N j : Nat} {c : CS} {S : List Nat} {e : Nat × Nat} {M0 M M' : am_M} (h : PQ tp n N j c S M0 M) (h' : FM tp n e M M') : FM tp n e M0 M' := ⟨h'.k, h'.p, fun a k hk => by rw [h'.f _ _ hk]; exact h.f a k (by omega)⟩
def stW (w : Nat) : List Nat → CS → List Nat × CS
  | [], c => ([], c)
  | x :: S, c => if x = w then stW w S (put c (Cd.op w)) else (x :: S, c)
theorem m_settle {d nS n N j w : Nat} {tp : Nat → Nat} {M0 : am_M} {Q : Option Value → am_H → Prop} (hw : w = 9 ∨ w = 10 ∨ w = 11) (hN : N ≤ 400) : ∀ (S : List Nat) (c : CS) (M : am_M), S.length ≤ 40 → (∀ x, x ∈ S → x ≤ 12) → c.1 + S.length ≤ j → PQ tp n N j c S M0 M → (∀ M', PQ tp n N j (stW w S c).2 (stW w S c).1 M0 M' → Q none (hp nS M')) → am_Wp (d + 1) 214 0 [.ref 205, .int (nI w)] [] (hp nS M) Q := by
  intro S
  induction S with
  | nil =>
    intro c M _ _ _ h hQ
    rw [b_214_0, h.pl, if_pos (by decide), b_214_57]
    exact hQ M h
  | cons x S ih =>
    intro c M hl hx hb h hQ
    have hj := h.jn
    rw [List.length_cons] at hl hb
    have hpl : M 205 32 = nI (S.length + 1) := h.pl
    have e1 : nI (S.length + 1) - 1 = nI S.length := by rw [sub1 (by omega)]; rfl
    have hx12 := hx x (List.mem_cons_self ..)
    rw [b_214_0, hpl, if_neg (by rw [li, le_n (by omega) (by omega)]; omega), b_214_7 (by rw [hpl, e1]; exact in_n (by omega) (by omega)), hpl, e1, cl_n (by omega), h.pr.1]
    by_cases e : x = w
    · have es : stW w (x :: S) c = stW w S (put c (Cd.op w)) := if_pos e
      rw [es] at hQ
      rw [if_neg (fun z => z (by rw [e])), b_214_22, hpl, e1]
      -- one off the pile
      have h1 : PM tp n N j c (am_up M 205 32 (nI S.length)) (am_up M 205 32 (nI S.length)) := ⟨AT_f h.a (fun k hk => up_pt _ _ (by omega)), h.jn, by rw [up_pt _ _ (by omega)]; exact h.u, fun i hi => by rw [up_pt _ _ (by omega)]; exact h.op i hi, fun i hi => by rw [up_pt _ _ (by omega)]; exact h.ar i hi, fun _ _ _ => rfl⟩
      refine m_emit (y := Cd.op w) h1 (by omega) rfl rfl (fun M2 h2 => ?_)
      have g32 : M2 205 32 = nI S.length := by rw [h2.f _ _ (by omega), up_same, upd_same]
      have g30 : M2 205 30 = nI (cnN (x :: S)) := by rw [h2.f _ _ (by omega), up_pt _ _ (by omega)]; exact h.po
      have g221 : M2 221 = M 221 := funext fun k => by rw [h2.f _ _ (by omega), up_pt _ _ (by omega)]
      have gf : ∀ a k, ¬ ((a = 205 ∧ (k = 16 ∨ k = 17 ∨ k = 18 ∨ k = 19 ∨ k = 29 ∨ k = 30 ∨ k = 32)) ∨ a = 221 ∨ ((a = 219 ∨ a = 220) ∧ 800 ≤ k)) → M2 a k = M0 a k := fun a k hk => by rw [h2.f _ _ (by omega), up_pt _ _ (by omega)]; exact h.f a k hk
      rw [am_ans_none, b_214_38]
      by_cases e9 : w = 9
      · have cc : cnN (x :: S) = cnN S + 1 := by rw [cnN, if_pos (Or.inl (e.trans e9))]
        have g30' : nI (cnN S + 1) - 1 = nI (cnN S) := by rw [sub1 (by omega)]; rfl
        rw [if_neg (fun z => z (by rw [e9]; rfl)), b_214_44, g30, cc, g30']
        exact ih (put c (Cd.op w)) _ (by omega) (fun y hy => hx y (List.mem_cons_of_mem _ hy)) (by rw [put_1]; omega) ⟨AT_f h2.a (fun k hk => up_pt _ _ (by omega)), h2.jn, by rw [up_pt _ _ (by omega)]; exact h2.u, fun i hi => by rw [up_pt _ _ (by omega)]; exact h2.op i hi, fun i hi => by rw [up_pt _ _ (by omega)]; exact h2.ar i hi, by rw [up_pt _ _ (by omega)]; exact g32, by rw [up_ne _ _ _ (by decide), g221]; exact h.pr.2, by rw [up_same, upd_same], fun a k hk => by rw [up_pt _ _ (by omega)]; exact gf a k hk⟩ hQ
      · have hne : ¬ (x = 9 ∨ x = 12) := fun z => z.elim (fun q => e9 (e.symm.trans q)) (fun q => by
          have h12 : w = 12 := e.symm.trans q
          rcases hw with r | r | r <;> rw [r] at h12 <;> cases h12)
        have cc : cnN (x :: S) = cnN S := by rw [cnN, if_neg hne]; rfl
        rw [if_pos (show ¬ nI w = 9 by rw [li, eq_n (by omega) (by omega)]; exact e9)]
        exact ih (put c (Cd.op w)) M2 (by omega) (fun y hy => hx y (List.mem_cons_of_mem _ hy)) (by rw [put_1]; omega) ⟨h2.a, h2.jn, h2.u, h2.op, h2.ar, g32, by rw [g221]; exact h.pr.2, by rw [g30, cc], gf⟩ hQ
    · have es : stW w (x :: S) c = (x :: S, c) := if_neg e
      rw [es] at hQ
      rw [if_pos (show ¬ nI x = nI w by rw [eq_n (by omega) (by omega)]; exact e), b_214_57]
      exact hQ M h
theorem m_waits {d nS n N j x : Nat} {tp : Nat → Nat} {c : CS} {S : List Nat} {M0 : am_M} {M : am_M} {Q : Option Value → am_H → Prop} (h : PQ tp n N j c S M0 M) (hl : S.length < 40) (hx : ¬ (x = 9 ∨ x = 12)) (hQ : ∀ M', PQ tp n N j c (x :: S) M0 M' → Q none (hp nS M')) : am_Wp d 212 0 [.ref 205, .int (nI x)] [] (hp nS M) Q := by
  have u1 : am_up M 221 S.length (nI x) 205 32 = nI S.length := by rw [up_ne _ _ _ (by decide)]; exact h.pl
  rw [c_212 (by rw [h.pl]; exact in_n hl (by omega)), h.pl, cl_n (by omega), u1, nI_1]
  exact hQ _ ⟨AT_f h.a (fun k hk => by rw [up_pt _ _ (by omega), up_pt _ _ (by omega)]), h.jn, by rw [up_pt _ _ (by omega), up_pt _ _ (by omega)]; exact h.u, fun i hi => by rw [up_pt _ _ (by omega), up_pt _ _ (by omega)]; exact h.op i hi, fun i hi => by rw [up_pt _ _ (by omega), up_pt _ _ (by omega)]; exact h.ar i hi, by rw [up_same, upd_same]; rfl, ⟨by rw [up_ne _ _ _ (by decide), up_same, upd_same], by rw [up_ne _ _ _ (by decide), up_same]; exact SN_up h.pr (Nat.le_refl _)⟩, by rw [up_pt _ _ (by omega), up_pt _ _ (by omega), h.po, cnN, if_neg hx]; rfl, fun a k hk => by rw [up_pt _ _ (by omega), up_pt _ _ (by omega)]; exact h.f a k hk⟩
/-- a not or a bracket: it counts, too -/
theorem m_waits2 {d nS n N j x : Nat} {tp : Nat → Nat} {c : CS} {S : List Nat} {M0 : am_M} {M : am_M} {Q : Option Value → am_H → Prop} (h : PQ tp n N j c S M0 M) (hl : S.length < 40) (hx : x = 9 ∨ x = 12) (hQ : ∀ M', PQ tp n N j c (x :: S) M0 M' → Q none (hp nS M')) : am_Wp d 212 0 [.ref 205, .int (nI x)] [] (hp nS (am_up M 205 30 (nI (cnN S + 1)))) Q := by
  have v1 : am_up M 205 30 (nI (cnN S + 1)) 205 32 = nI S.length := by rw [up_pt _ _ (by omega)]; exact h.pl
  have u1 : am_up (am_up M 205 30 (nI (cnN S + 1))) 221 S.length (nI x) 205 32 = nI S.length := by rw [up_ne _ _ _ (by decide)]; exact v1
  rw [c_212 (by rw [v1]; exact in_n hl (by omega)), v1, cl_n (by omega), u1, nI_1]
  exact hQ _ ⟨AT_f h.a (fun k hk => by rw [up_pt _ _ (by omega), up_pt _ _ (by omega), up_pt _ _ (by omega)]), h.jn, by rw [up_pt _ _ (by omega), up_pt _ _ (by omega), up_pt _ _ (by omega)]; exact h.u, fun i hi => by rw [up_pt _ _ (by omega), up_pt _ _ (by omega), up_pt _ _ (by omega)]; exact h.op i hi, fun i hi => by rw [up_pt _ _ (by omega), up_pt _ _ (by omega), up_pt _ _ (by omega)]; exact h.ar i hi, by rw [up_same, upd_same]; rfl, ⟨by rw [up_ne _ _ _ (by decide), up_same, upd_same], by rw [up_ne _ _ _ (by decide), up_same, up_ne _ _ _ (by decide)]; exact SN_up h.pr (Nat.le_refl _)⟩, by rw [up_pt _ _ (by omega), up_pt _ _ (by omega), up_same, upd_same, cnN, if_pos hx], fun a k hk => by rw [up_pt _ _ (by omega), up_pt _ _ (by omega), up_pt _ _ (by omega)]; exact h.f a k hk⟩
theorem m_nq {d nS n N j : Nat} {tp : Nat → Nat} {c : CS} {S : List Nat} {M0 : am_M} {M : am_M} {Q : Option Value → am_H → Prop} (hT : TT tp n N M0) (h : PQ tp n N j c S M0 M) (hj : j + 1 ≤ N) (hQ : ∀ M', PQ tp n N (j + 1) c S M0 M' → Q none (hp nS M')) : am_Wp (d + 3) 185 0 [.ref 205, .retAddr 0] [] (hp nS M) Q := m_nx (PQ_t hT h) (PQ_M h) hj (fun M' h' => hQ M' (PQ_P h h'))
/-- what the reading of one condition does, the pile being S -/
def mSg (D nS : Nat) (tp : Nat → Nat) (n N : Nat) (M0 : am_M) (o : Nat) (Sf : Nat → CS → PR) : Prop := ∀ (j : Nat) (c : CS) (S : List Nat) (M : am_M) (z : Value) (Q : Option Value → am_H → Prop), cnN S = o → S.length ≤ 3 * o + 2 → (∀ x, x ∈ S → x ≤ 12) → c.1 + S.length ≤ j → PQ tp n N j c S M0 M → (∀ e M', Sf j c = .error e → FM tp n e M0 M' → Q (some (.int (-1))) (hp nS M')) → (∀ q M' z, Sf j c = .ok q → PQ tp n N q.1 (stW 9 S q.2).2 (stW 9 S q.2).1 M0 M' → am_Wp D 211 9 [.ref 205, .int (nI (cbr S)), .int 0, z] [] (hp nS M') Q) → am_Wp D 211 9 [.ref 205, .int (nI (cbr S)), .int 1, z] [] (hp nS M) Q
def XP (a w : Bool) : List Nat := (if a = true then [10] else []) ++ (if w = true then [11] else [])
theorem st10 {w : Bool} {B : List Nat} (hB : ∀ x, B.head? = some x → x ≠ 10) (a : Bool) (c : CS) : stW 10 (XP a w ++ B) c = (XP false w ++ B, if a = true then put c (Cd.op 10) else c) := by
  have h0 : ∀ c : CS, stW 10 (XP false w ++ B) c = (XP false w ++ B, c) := by
    intro c
    cases w with
    | true => exact if_neg (by omega)
    | false =>
      cases B with
      | nil => rfl
      | cons x B => exact if_neg (hB x rfl)
  cases a with
  | true =>
    have e : stW 10 (XP true w ++ B) c = stW 10 (XP false w ++ B) (put c (Cd.op 10)) := if_pos rfl
    rw [e, h0, if_pos rfl]
  | false => rw [h0, if_neg (by decide)]
theorem st11 {w : Bool} {B : List Nat} (hB : ∀ x, B.head? = some x → x ≠ 11) (c : CS) : stW 11 (XP false w ++ B) c = (B, if w = true then put c (Cd.op 11) else c) := by
  have h0 : ∀ c : CS, stW 11 B c = (B, c) := by
    intro c
    cases B with
    | nil => rfl
    | cons x B => exact if_neg (hB x rfl)
  cases w with
  | true =>
    have e : stW 11 (XP false true ++ B) c = stW 11 B (put c (Cd.op 11)) := if_pos rfl
    rw [e, h0, if_pos rfl]
  | false =>
    rw [if_neg (by decide)]
    exact h0 c
theorem cnt_X (a w : Bool) (B : List Nat) : cnN (XP a w ++ B) = cnN B ∧ cbr (XP a w ++ B) = cbr B ∧ (XP a w ++ B).length = (if a = true then 1 else 0) + (if w = true then 1 else 0) + B.length := by
  cases a <;> cases w
  · exact ⟨rfl, rfl, by show B.length = 0 + 0 + B.length; omega⟩
  · exact ⟨rfl, rfl, by show B.length + 1 = 0 + 1 + B.length; omega⟩
  · exact ⟨rfl, rfl, by show B.length + 1 = 1 + 0 + B.length; omega⟩
  · exact ⟨rfl, rfl, by show B.length + 1 + 1 = 1 + 1 + B.length; omega⟩
theorem mem_X {a w : Bool} {B : List Nat} (hB : ∀ x, x ∈ B → x ≤ 12) : ∀ x, x ∈ XP a w ++ B → x ≤ 12 := by
  intro x hx
  rcases List.mem_append.mp hx with h | h
  · unfold XP at h
    rcases List.mem_append.mp h with h | h
    · cases a with
      | true => rw [if_pos rfl] at h; have := List.mem_singleton.mp h; omega
      | false => rw [if_neg (by decide)] at h; cases h
    · cases w with
      | true => rw [if_pos rfl] at h; have := List.mem_singleton.mp h; omega
      | false => rw [if_neg (by decide)] at h; cases h
  · exact hB x h
theorem m_chL {d nS n N o L : Nat} {tp : Nat → Nat} {M0 : am_M} {S : Nat → CS → PR} {B : List Nat} {Q : Option Value → am_H → Prop} (hT : TT tp n N M0) (hS : mSg (d + 8) nS tp n N M0 o S) (hC : ∀ j c q, j ≤ N → S j c = .ok q → CO N j c L q) (hB : ∀ x, B.head? = some x → x = 12) (hB2 : ∀ x, x ∈ B → x ≤ 12) (hBl : B.length ≤ 3 * o) (ho : o ≤ 8) (hBc : cnN B = o) : ∀ (m : Nat) (a w : Bool) (j : Nat) (c : CS) (M : am_M) (z : Value), N < m + j → c.1 + (XP a w ++ B).length ≤ j → PQ tp n N j c (XP a w ++ B) M0 M → (∀ e M', chL (kK tp n) S m w j (if a = true then put c (Cd.op 10) else c) = .error e → FM tp n e M0 M' → Q (some (.int (-1))) (hp nS M')) → (∀ q M' z, chL (kK tp n) S m w j (if a = true then put c (Cd.op 10) else c) = .ok q → PQ tp n N q.1 q.2 B M0 M' → am_Wp (d + 8) 211 185 [.ref 205, .int (nI (cbr B)), .int 0, z] [] (hp nS M') Q) → am_Wp (d + 8) 211 9 [.ref 205, .int (nI (cbr B)), .int 0, z] [] (hp nS M) Q := by
  have hte := hT.e
  have hl := hT.e.l
  have hB10 : ∀ x, B.head? = some x → x ≠ 10 := fun x hx => by have := hB x hx; omega
  have hB11 : ∀ x, B.head? = some x → x ≠ 11 := fun x hx => by have := hB x hx; omega
  intro m
  induction m with
  | zero =>
    intro a w j c M z hN hb h hE hO
    have := h.jn
    omega
  | succ m ih =>
    intro a w j c M z hN hb h hE hO
    have hj := h.jn
    have hk38 := kK_38 tp n j
    obtain ⟨x1, x2, x3⟩ := cnt_X a w B
    obtain ⟨y1, y2, y3⟩ := cnt_X false w B
    rw [if_neg (by decide)] at y3
    have hal : (if a = true then 1 else 0) ≤ 1 := by cases a <;> decide
    have hwl : (if w = true then 1 else 0) ≤ 1 := by cases w <;> decide
    have ha1 : (if a = true then put c (Cd.op 10) else c).1 = c.1 + (if a = true then 1 else 0) := by cases a <;> rfl
    have w5 : ∀ {Q : Option Value → am_H → Prop}, am_Wp (d + 7) 192 0 [.ref 205, .int 5] [] (hp nS M) Q = Q (some (.int (bI (decide (kK tp n j = 5))))) (hp nS M) := fun {Q} => m_isW (w := 5) (PQ_M h) (by omega)
    have w4 : ∀ {Q : Option Value → am_H → Prop}, am_Wp (d + 7) 192 0 [.ref 205, .int 4] [] (hp nS M) Q = Q (some (.int (bI (decide (kK tp n j = 4))))) (hp nS M) := fun {Q} => m_isW (w := 4) (PQ_M h) (by omega)
    rw [b_211_9, if_pos rfl, b_211_109, w5, am_ans_some, b_211_114]
    rw [chL] at hE hO
    -- settle 10
    have set10 : ∀ (pc2 : Nat) {Q' : Option Value → am_H → Prop}, (∀ M1, PQ tp n N j (if a = true then put c (Cd.op 10) else c) (XP false w ++ B) M0 M1 → Q' none (hp nS M1)) → am_Wp (d + 7) 214 0 [.ref 205, .int 10] [] (hp nS M) Q' := by
      intro _ Q' hQ'
      refine m_settle (d := d + 6) (w := 10) (Or.inr (Or.inl rfl)) hl _ c M (by omega) (mem_X hB2) hb h (fun M1 h1 => ?_)
      rw [st10 hB10] at h1
      exact hQ' M1 h1
    by_cases c5 : kK tp n j = 5
    · rw [if_pos c5] at hE hO
      have hj1 : j + 1 ≤ N := TE_s hte hj (by omega)
      rw [ifb_t c5, b_211_117]
      refine set10 0 (fun M1 h1 => ?_)
      rw [am_ans_none, b_211_123]
      refine m_waits (x := 10) h1 (by omega) (by omega) (fun M2 h2 => ?_)
      rw [am_ans_none, b_211_129]
      refine m_nq (d := d + 4) hT h2 hj1 (fun M3 h3 => ?_)
      rw [am_ans_none, b_211_133]
      have hX : 10 :: (XP false w ++ B) = XP true w ++ B := by cases w <;> rfl
      rw [hX] at h3
      obtain ⟨t1, t2, t3⟩ := cnt_X true w B
      rw [if_pos rfl] at t3
      rw [← t2]
      refine hS (j + 1) _ (XP true w ++ B) M3 z Q (by omega) (by omega) (mem_X hB2) (by rw [ha1]; omega) h3 (fun e M' he hf => ?_) (fun q M' z' hq hp' => ?_)
      · exact hE e M' (by rw [he]) hf
      · have co := hC _ _ _ hj1 hq
        have o1 := co.a
        have o2 := co.b
        have o3 := co.n
        rw [ha1] at o3
        have es : stW 9 (XP true w ++ B) q.2 = (XP true w ++ B, q.2) := if_neg (by omega)
        rw [es] at hp'
        rw [hq] at hE hO
        rw [t2]
        refine ih true w q.1 q.2 M' z' (by omega) (by omega) hp' (fun e M2 he hf => hE e M2 (by rw [if_pos rfl] at he; exact he) hf) (fun r M2 z2 hr h2 => hO r M2 z2 (by rw [if_pos rfl] at hr; exact hr) h2)
    · rw [if_neg c5] at hE hO
      rw [ifb_f c5, b_211_138, w4, am_ans_some, b_211_143]
      have f1 : (if w = true then put (if a = true then put c (Cd.op 10) else c) (Cd.op 11) else (if a = true then put c (Cd.op 10) else c)).1 = c.1 + (if a = true then 1 else 0) + (if w = true then 1 else 0) := by
        cases w with
        | true => rw [if_pos rfl, if_pos rfl, put_1, ha1]
        | false => exact ha1
      have set11 : ∀ (M1 : am_M) {Q' : Option Value → am_H → Prop}, PQ tp n N j (if a = true then put c (Cd.op 10) else c) (XP false w ++ B) M0 M1 → (∀ M2, PQ tp n N j (if w = true then put (if a = true then put c (Cd.op 10) else c) (Cd.op 11) else (if a = true then put c (Cd.op 10) else c)) B M0 M2 → Q' none (hp nS M2)) → am_Wp (d + 7) 214 0 [.ref 205, .int 11] [] (hp nS M1) Q' := by
        intro M1 Q' h1 hQ'
        refine m_settle (d := d + 6) (w := 11) (Or.inr (Or.inr rfl)) hl _ _ M1 (by omega) (mem_X hB2) (by rw [ha1]; omega) h1 (fun M2 h2 => ?_)
        rw [st11 hB11] at h2
        exact hQ' M2 h2
      by_cases c4 : kK tp n j = 4
      · rw [if_pos c4] at hE hO
        have hj1 : j + 1 ≤ N := TE_s hte hj (by omega)
        rw [ifb_t c4, b_211_146]
        refine set10 0 (fun M1 h1 => ?_)
        rw [am_ans_none, b_211_152]
        refine set11 M1 h1 (fun M2 h2 => ?_)
        rw [am_ans_none, b_211_158]
        refine m_waits (x := 11) h2 (by omega) (by omega) (fun M3 h3 => ?_)
        rw [am_ans_none, b_211_164]
        refine m_nq (d := d + 4) hT h3 hj1 (fun M4 h4 => ?_)
        rw [am_ans_none, b_211_168]
        have hX : 11 :: B = XP false true ++ B := rfl
        rw [hX] at h4
        obtain ⟨t1, t2, t3⟩ := cnt_X false true B
        rw [if_pos rfl, if_neg (by decide)] at t3
        rw [← t2]
        refine hS (j + 1) _ (XP false true ++ B) M4 z Q (by omega) (by omega) (mem_X hB2) (by rw [f1]; omega) h4 (fun e M' he hf => ?_) (fun q M' z' hq hp' => ?_)
        · exact hE e M' (by rw [he]) hf
        · have co := hC _ _ _ hj1 hq
          have o1 := co.a
          have o2 := co.b
          have o3 := co.n
          rw [f1] at o3
          have es : stW 9 (XP false true ++ B) q.2 = (XP false true ++ B, q.2) := if_neg (by omega)
          rw [es] at hp'
          rw [hq] at hE hO
          rw [t2]
          refine ih false true q.1 q.2 M' z' (by omega) (by omega) hp' (fun e M2 he hf => hE e M2 (by rw [if_neg (by decide)] at he; exact he) hf) (fun r M2 z2 hr h2 => hO r M2 z2 (by rw [if_neg (by decide)] at hr; exact hr) h2)
      · rw [if_neg c4] at hO
        rw [ifb_f c4, b_211_173]
        refine set10 0 (fun M1 h1 => ?_)
        rw [am_ans_none, b_211_179]
        refine set11 M1 h1 (fun M2 h2 => ?_)
        rw [am_ans_none]
        exact hO (j, _) M2 z rfl h2
theorem m_sg {d nS n N : Nat} {tp : Nat → Nat} {M0 : am_M} (hT : TT tp n N M0) : ∀ (f o : Nat), 1 ≤ f → f + o = 9 → mSg (d + 8) nS tp n N M0 o (pSg (kK tp n) (kV tp n) f o) := by
  have hte := hT.e
  have hl := hT.e.l
  intro f
  induction f with
  | zero =>
    intro o hf
    omega
  | succ f ih =>
    intro o _ ho j c S M z Q hcS hlS hmS hb h hE hO
    have hj := h.jn
    have hk38 := kK_38 tp n j
    have w6 : ∀ {Q : Option Value → am_H → Prop}, am_Wp (d + 7) 192 0 [.ref 205, .int 6] [] (hp nS M) Q = Q (some (.int (bI (decide (kK tp n j = 6))))) (hp nS M) := fun {Q} => m_isW (w := 6) (PQ_M h) (by omega)
    have s40 : ∀ {Q : Option Value → am_H → Prop}, am_Wp (d + 7) 199 0 [.ref 205, .int 40] [] (hp nS M) Q = Q (some (.int (bI (decide (kK tp n j = 31))))) (hp nS M) := fun {Q} => m_is (PQ_M h) 40 31 5 (by decide) (by decide) (by decide)
    rw [pSg] at hE hO
    rw [b_211_9, if_neg bn1, b_211_13, w6, am_ans_some, b_211_19]
    by_cases c1 : kK tp n j = 6 ∨ kK tp n j = 31
    · rw [if_pos c1] at hE hO
      have at33 : ∀ b : Bool, b = decide (kK tp n j = 6) → am_Wp (d + 8) 211 33 [.ref 205, .int (nI (cbr S)), .int 1, .int (bI b)] [] (hp nS M) Q := by
        intro b hbb
        rw [b_211_33, h.po, hcS]
        by_cases c8 : 8 ≤ o
        · rw [if_pos c8] at hE
          rw [if_neg (fun z => z (by rw [show o = 8 by omega]; rfl)), b_211_42]
          refine m_err (x := 3) (PQ_M h) (fun M' hf => ?_)
          rw [am_ans_some, b_211_47]
          exact hE (3, j) M' rfl (FM_P h hf)
        · rw [if_neg c8] at hE hO
          have hj1 : j + 1 ≤ N := TE_s hte hj (by omega)
          rw [if_pos (show ¬ nI o = 8 by rw [li, eq_n (by omega) (by omega)]; omega), b_211_48, h.po, hcS, nI_1]
          have hsg := ih (o + 1) (by omega) (by omega)
          by_cases c6 : kK tp n j = 6
          · rw [decide_eq_true c6] at hbb
            subst hbb
            rw [if_neg (show ¬ kK tp n j = 31 by omega)] at hE hO
            rw [if_pos (show ¬ bI true = 0 by decide), b_211_66, if_neg (show ¬ bI true = 0 by decide), b_211_71, b_211_78]
            have := m_waits2 (d := d + 7) (nS := nS) (x := 9) (Q := fun v h1 => am_Wp (d + 7 + 1) 211 81 [.ref 205, .int (nI (cbr S)), .int 1, .int (bI true)] (am_ans v []) h1 Q) h (by omega) (Or.inl rfl) (fun M1 h1 => ?_)
            · rw [hcS] at this
              exact this
            · rw [am_ans_none, b_211_81]
              refine m_nq (d := d + 4) hT h1 hj1 (fun M2 h2 => ?_)
              rw [am_ans_none, b_211_85]
              have ec : cbr (9 :: S) = cbr S := rfl
              rw [← ec]
              refine hsg (j + 1) c (9 :: S) M2 _ Q (by rw [cnN, if_pos (Or.inl rfl)]; omega) (by rw [List.length_cons]; omega) (fun x hx => (List.mem_cons.mp hx).elim (fun z => by omega) (hmS x)) (by rw [List.length_cons]; omega) h2 (fun e M' he hf => hE e M' (by rw [he]) hf) (fun q M' z' hq hp' => ?_)
              exact hO (q.1, put q.2 (Cd.op 9)) M' z' (by rw [hq]) hp'
          · have c31 : kK tp n j = 31 := by omega
            rw [decide_eq_false c6] at hbb
            subst hbb
            rw [if_pos c31] at hE hO
            rw [if_neg (fun z => z rfl), b_211_62, nI_1, b_211_66, if_pos (show bI false = 0 from rfl), b_211_76, b_211_78]
            have := m_waits2 (d := d + 7) (nS := nS) (x := 12) (Q := fun v h1 => am_Wp (d + 7 + 1) 211 81 [.ref 205, .int (nI (cbr S + 1)), .int 1, .int (bI false)] (am_ans v []) h1 Q) h (by omega) (Or.inr rfl) (fun M1 h1 => ?_)
            · rw [hcS] at this
              exact this
            · rw [am_ans_none, b_211_81]
              refine m_nq (d := d + 4) hT h1 hj1 (fun M2 h2 => ?_)
              rw [am_ans_none, b_211_85]
              have ec : cbr (12 :: S) = cbr S + 1 := rfl
              rw [← ec]
              have hcn : cnN (12 :: S) = o + 1 := by rw [cnN, if_pos (Or.inr rfl)]; omega
              have hmB : ∀ x, x ∈ 12 :: S → x ≤ 12 := fun x hx => (List.mem_cons.mp hx).elim (fun z => by omega) (hmS x)
              -- what stands behind the bracket
              have behind : ∀ (q : Nat × CS) (M' : am_M) (z' : Value), pCh (kK tp n) (pSg (kK tp n) (kV tp n) f (o + 1)) (j + 1) c = .ok q → PQ tp n N q.1 q.2 (12 :: S) M0 M' → am_Wp (d + 8) 211 185 [.ref 205, .int (nI (cbr (12 :: S))), .int 0, z'] [] (hp nS M') Q := by
                intro q M' z' hq hp'
                have co := pCh_ok (L := 28 - 2 * f) hte (fun j c q hj h => pSg_ok hte f (o + 1) j c q (by omega) hj h) hj1 hq (by omega)
                have o1 := co.a
                have o2 := co.b
                have o3 := co.n
                have q38 := kK_38 tp n q.1
                have s41 : ∀ {Q : Option Value → am_H → Prop}, am_Wp (d + 7) 199 0 [.ref 205, .int 41] [] (hp nS M') Q = Q (some (.int (bI (decide (kK tp n q.1 = 32))))) (hp nS M') := fun {Q} => m_is (PQ_M hp') 41 32 6 (by decide) (by decide) (by decide)
                rw [hq] at hE hO
                have hE : ∀ e M', (if kK tp n q.1 = 32 then .ok (q.1 + 1, q.2) else .error (1, q.1) : PR) = .error e → FM tp n e M0 M' → Q (some (.int (-1))) (hp nS M') := hE
                have hO : ∀ r M' z, (if kK tp n q.1 = 32 then .ok (q.1 + 1, q.2) else .error (1, q.1) : PR) = .ok r → PQ tp n N r.1 (stW 9 S r.2).2 (stW 9 S r.2).1 M0 M' → am_Wp (d + 8) 211 9 [.ref 205, .int (nI (cbr S)), .int 0, z] [] (hp nS M') Q := hO
                rw [b_211_185, if_pos (show ¬ nI (cbr (12 :: S)) = 0 by rw [ec]; exact nI_ne0 (by omega) (by have := cbr_le S; omega)), b_211_191, s41, am_ans_some, b_211_197]
                by_cases c32 : kK tp n q.1 = 32
                · rw [if_pos c32] at hO
                  have hq1 : q.1 + 1 ≤ N := TE_s hte o1 (by omega)
                  have hpl : M' 205 32 = nI (S.length + 1) := hp'.pl
                  have e1 : nI (S.length + 1) - 1 = nI S.length := by rw [sub1 (by omega)]; rfl
                  have e2 : nI (o + 1) - 1 = nI o := by rw [sub1 (by omega)]; rfl
                  have e3 : nI (cbr S + 1) - 1 = nI (cbr S) := by rw [sub1 (by omega)]; rfl
                  have v30 : am_up M' 205 32 (nI S.length) 205 30 = nI (o + 1) := by rw [up_pt _ _ (by omega), hp'.po, hcn]
                  rw [ifn_t c32, b_211_206, hpl, e1, v30, e2, ec, e3]
                  have h5 : PQ tp n N q.1 q.2 S M0 (am_up (am_up M' 205 32 (nI S.length)) 205 30 (nI o)) := ⟨AT_f hp'.a (fun k hk => by rw [up_pt _ _ (by omega), up_pt _ _ (by omega)]), hp'.jn, by rw [up_pt _ _ (by omega), up_pt _ _ (by omega)]; exact hp'.u, fun i hi => by rw [up_pt _ _ (by omega), up_pt _ _ (by omega)]; exact hp'.op i hi, fun i hi => by rw [up_pt _ _ (by omega), up_pt _ _ (by omega)]; exact hp'.ar i hi, by rw [up_pt _ _ (by omega), up_same, upd_same], by rw [up_ne _ _ _ (by decide), up_ne _ _ _ (by decide)]; exact hp'.pr.2, by rw [up_same, upd_same, hcS], fun a k hk => by rw [up_pt _ _ (by omega), up_pt _ _ (by omega)]; exact hp'.f a k hk⟩
                  refine m_settle (d := d + 6) (w := 9) (Or.inl rfl) hl S q.2 _ (by omega) hmS (by omega) h5 (fun M4 h4 => ?_)
                  rw [am_ans_none, b_211_236]
                  refine m_nq (d := d + 4) hT h4 hq1 (fun M5 h5 => ?_)
                  rw [am_ans_none, b_211_240]
                  exact hO (q.1 + 1, q.2) M5 z' rfl h5
                · rw [if_neg c32] at hE
                  rw [ifn_f c32, b_211_200]
                  refine m_err (x := 1) (PQ_M hp') (fun M4 hf => ?_)
                  rw [am_ans_some, b_211_205]
                  exact hE (1, q.1) M4 rfl (FM_P hp' hf)
              have herr : ∀ e M', pCh (kK tp n) (pSg (kK tp n) (kV tp n) f (o + 1)) (j + 1) c = .error e → FM tp n e M0 M' → Q (some (.int (-1))) (hp nS M') := fun e M' he hf => hE e M' (by rw [he]) hf
              unfold pCh at behind herr
              refine hsg (j + 1) c (12 :: S) M2 _ Q hcn (by rw [List.length_cons]; omega) hmB (by rw [List.length_cons]; omega) h2 (fun e M' he hf => herr e M' (by rw [he]) hf) (fun q M' z' hq hp' => ?_)
              have co := pSg_ok hte f (o + 1) (j + 1) c q (by omega) hj1 hq
              have o1 := co.a
              have o2 := co.b
              have o3 := co.n
              have es : stW 9 (12 :: S) q.2 = (12 :: S, q.2) := if_neg (by omega)
              rw [es] at hp'
              rw [hq] at behind herr
              refine m_chL (L := 28 - 2 * f) (B := 12 :: S) hT hsg (fun j c q hj h => pSg_ok hte f (o + 1) j c q (by omega) hj h) (fun x hx => by cases hx; rfl) hmB (by rw [List.length_cons]; omega) (by omega) hcn 400 false false q.1 q.2 M' z' (by omega) (by show q.2.1 + (12 :: S).length ≤ q.1; rw [List.length_cons]; omega) hp' (fun e M2 he hf => herr e M2 (by rw [if_neg (by decide)] at he; exact he) hf) (fun r M2 z2 hr h2 => behind r M2 z2 (by rw [if_neg (by decide)] at hr; exact hr) h2)
      by_cases c6 : kK tp n j = 6
      · rw [ifn_t c6]
        exact at33 _ rfl
      · rw [ifn_f c6, b_211_24, s40, am_ans_some, b_211_30, ifb_t (show kK tp n j = 31 by omega)]
        exact at33 _ rfl
    · rw [if_neg c1] at hE hO
      rw [ifn_f (by omega), b_211_24, s40, am_ans_some, b_211_30, ifb_f (by omega), b_211_88]
      refine m_cpd (PQ_t hT h) (PQ_M h) (by omega) (fun e M' he hf => ?_) (fun q M' hq hp' => ?_)
      · rw [am_ans_some, b_211_92, if_neg (fun z => z rfl), b_211_96]
        exact hE e M' he (FM_P h hf)
      · have co := pCmp_ok hte hj hq
        have o1 := co.a
        have o2 := co.b
        have o3 := co.n
        have h1 := PQ_P h hp'
        rw [am_ans_some, b_211_92, if_pos m1n, b_211_98]
        refine m_settle (d := d + 6) (w := 9) (Or.inl rfl) hl S q.2 M' (by omega) hmS (by omega) h1 (fun M2 h2 => ?_)
        rw [am_ans_none, b_211_104]
        exact hO q M2 _ hq h2
end
