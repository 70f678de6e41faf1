/-! THE TABLES HOLD: each row of a code table is what the machine decodes there, and its links are among the words -/
def am_len (i : Instr) : Nat := match i with
  | .bipush _ => 2
  | .ldc _ => 2
  | .iload _ => 2
  | .lload _ => 2
  | .aload _ => 2
  | .istore _ => 2
  | .lstore _ => 2
  | .astore _ => 2
  | .newarray _ => 2
  | .sipush _ => 3
  | .ldc_w _ => 3
  | .iinc _ _ => 3
  | .ifCond _ _ => 3
  | .if_icmp _ _ => 3
  | .goto _ => 3
  | .getfield _ => 3
  | .putfield _ => 3
  | .getstatic _ => 3
  | .invokevirtual _ => 3
  | .invokestatic _ => 3
  | .invokespecial _ => 3
  | .new _ => 3
  | .anewarray _ => 3
  | _ => 1
def am_st : Nat → String × String × String := fun k => match k with
  | 0 => ("java/lang/String", "COMPACT_STRINGS", "Z")
  | 1 => ("LarkExchange$Sums", "STICKS", "[I")
  | 2 => ("LarkExchange$Sums", "ONES", "[I")
  | 3 => ("LarkExchange$Sums", "TENS", "[I")
  | _ => ("jdk/internal/util/Preconditions", "SIOOBE_FORMATTER", "Ljava/util/function/BiFunction;")
def am_tx : Nat → Nat := fun k => match k with
  | 0 => 115
  | _ => 126
def am_lkF (own : String) (i j : Nat) (t : String × String × String) : Bool := match am_fl[j]? with
  | some q => q.1 == own && q.2.1 == i && q.2.2.1 == t.1 && q.2.2.2.1 == t.2.1 && q.2.2.2.2.1 == t.2.2
  | none => false
def am_lkC (own : String) (i j kd mi : Nat) : Bool := match am_cl[j]? with
  | some q => q.1 == own && q.2.1 == i && q.2.2.1 == kd && q.2.2.2.1 == mi
  | none => false
def am_lkN (own : String) (i j : Nat) (C : String) : Bool := match am_nl[j]? with
  | some q => q.1 == own && q.2.1 == i && q.2.2.1 == C
  | none => false
def am_lkK (own : String) (i j : Nat) (v : Int32) : Bool := match am_ct[j]? with
  | some q => q.1 == own && q.2.1 == i && q.2.2.1 == v
  | none => false
def am_fin (y : MethodName) (ci k : Nat) : Bool := !(am_Ft ci k).2.2.2 || ((am_Ft ci k).1 == y.cls && y.name == "<init>")
/-- the links of a row -/
def am_lnk (y : MethodName) (pc : Nat) (e : am_I) : Bool := match e.1 with
  | .getfield i => decide (e.2.2.1 ≤ 12) && decide (e.2.2.2.1 < am_Nf e.2.2.1) && am_lkF y.cls i e.2.2.2.2 ((am_Ft e.2.2.1 e.2.2.2.1).1, (am_Ft e.2.2.1 e.2.2.2.1).2.1, (am_Ft e.2.2.1 e.2.2.2.1).2.2.1)
  | .putfield i => decide (e.2.2.1 < 12) && decide (e.2.2.2.1 < am_Nf e.2.2.1) && am_lkF y.cls i e.2.2.2.2 ((am_Ft e.2.2.1 e.2.2.2.1).1, (am_Ft e.2.2.1 e.2.2.2.1).2.1, (am_Ft e.2.2.1 e.2.2.2.1).2.2.1) && am_fin y e.2.2.1 e.2.2.2.1
  | .getstatic i => decide (e.2.2.1 ≤ 4) && am_lkF y.cls i e.2.2.2.2 (am_st e.2.2.1)
  | .invokevirtual i => e.2.2.1 == 0 && am_lkC y.cls i e.2.2.2.2 e.2.2.1 e.2.2.2.1
  | .invokestatic i => (e.2.2.1 == 1 || e.2.2.1 == 3 || e.2.2.1 == 6) && am_lkC y.cls i e.2.2.2.2 e.2.2.1 e.2.2.2.1
  | .invokespecial i => (e.2.2.1 == 2 || e.2.2.1 == 4 || e.2.2.1 == 5) && am_lkC y.cls i e.2.2.2.2 e.2.2.1 e.2.2.2.1
  | .new i => decide (e.2.2.1 < 12) && am_lkN y.cls i e.2.2.2.2 (am_Rn e.2.2.1)
  | .anewarray i => e.2.2.1 == 9 && am_lkN y.cls i e.2.2.2.2 "LarkExchange$World"
  | .ldc i => if e.2.2.1 = 0 then am_lkK y.cls i e.2.2.2.2 (Int32.ofNat e.2.2.2.1) else decide (e.2.2.2.1 < 2) && y.cls == "LarkExchange$Reader" && i == am_tx e.2.2.2.1
  | .ldc_w i => e.2.2.1 == 0 && am_lkK y.cls i e.2.2.2.2 (Int32.ofNat e.2.2.2.1)
  | .ifCond _ o => decide ((pc : Int) + o = (e.2.2.1 : Int))
  | .if_icmp _ o => decide ((pc : Int) + o = (e.2.2.1 : Int))
  | .goto o => decide ((pc : Int) + o = (e.2.2.1 : Int))
  | .tableswitch d lo hi offs => decide ((pc : Int) + d = (e.2.2.1 : Int)) && offs.toList.all (fun o => decide (0 ≤ (pc : Int) + o))
  | .lookupswitch d ps => decide (0 ≤ (pc : Int) + d) && ps.toList.all (fun q => decide (0 ≤ (pc : Int) + q.2)) && (ps.toList.zip (ps.toList.drop 1)).all (fun (a, next) => a.1 < next.1)
  | _ => true
def am_isSw (i : Instr) : Bool := match i with
  | .tableswitch _ _ _ _ => true
  | .lookupswitch _ _ => true
  | _ => false
def am_chk (mi pc : Nat) (e : am_I) : Bool := decide (decode (am_me mi).2.1 pc = .ok (e.1, e.2.1)) && (am_isSw e.1 || e.2.1 == am_len e.1) && am_lnk (am_me mi).1 pc e
def am_ckr (mi k : Nat) : Nat → List (Option am_I) → Bool
  | _, [] => true
  | j, none :: r => am_ckr mi k (j + 1) r
  | j, some e :: r => am_chk mi (16 * k + j) e && am_ckr mi k (j + 1) r
def am_ckm (mi : Nat) : Nat → List (List (Option am_I)) → Bool
  | _, [] => true
  | k, r :: t => decide (r.length ≤ 16) && am_ckr mi k 0 r && am_ckm mi (k + 1) t
def am_cks (a n : Nat) : Bool := (List.range n).all fun i => am_ckm (a + i) 0 (am_ts.getD (a + i) [])
/-- some rows of a table -/
def am_ckp (mi k n : Nat) : Bool := am_ckm mi k (((am_ts.getD mi []).drop k).take n)
theorem am_ckm_cut (mi n : Nat) : ∀ (k : Nat) (t : List (List (Option am_I))), am_ckm mi k (t.take n) = true → am_ckm mi (k + n) (t.drop n) = true → am_ckm mi k t = true := by
  induction n with
  | zero => intro k t _ h; simpa using h
  | succ n ih =>
    intro k t h1 h2
    cases t with
    | nil => rfl
    | cons r t =>
      simp only [List.take_succ_cons, am_ckm, Bool.and_eq_true] at h1
      simp only [List.drop_succ_cons] at h2
      simp only [am_ckm, Bool.and_eq_true]
      exact ⟨h1.1, ih (k + 1) t h1.2 (by rw [show k + 1 + n = k + (n + 1) by omega]; exact h2)⟩
theorem am_ckm_app (mi k n m : Nat) (h1 : am_ckp mi k n = true) (h2 : am_ckm mi (k + n) (((am_ts.getD mi []).drop (k + n)).take m) = true) : am_ckm mi k (((am_ts.getD mi []).drop k).take (n + m)) = true := by
  refine am_ckm_cut mi n k _ ?_ ?_
  · rw [List.take_take, Nat.min_eq_left (by omega)]; exact h1
  · rw [List.drop_take, List.drop_drop, show n + m - n = m by omega]
    exact h2
