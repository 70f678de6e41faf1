/-! MY MACHINE: objects by number (0 .. 15 stand before the law: 0 the script, 1 STICKS, 2 ONES, 3 TENS, 4 the signs' text, 5 its bytes, 6 the keywords' text, 7 its bytes, 8 the formatter that no one asks; from 16 on what the law makes, in its order).
A heap: how many objects; how many slots were made; kind and length of each (0 ints, 1 Worlds, 2 bytes, 3 + c an object of class c, 999 nothing); references; ints. -/
abbrev am_H : Type := Nat × Nat × (Nat → Nat × Nat) × (Nat → Nat → Option Nat) × (Nat → Nat → Int32)
abbrev am_S : Type := Nat × List Value × List Value × am_H
def am_i1 {α : Type} (st : List Value) (f : Int32 → List Value → Option α) : Option α := match st with
  | .int x :: r => f x r
  | _ => none
def am_i2 {α : Type} (st : List Value) (f : Int32 → Int32 → List Value → Option α) : Option α := match st with
  | .int y :: .int x :: r => f x y r
  | _ => none
def am_l1 {α : Type} (st : List Value) (f : Int64 → List Value → Option α) : Option α := match st with
  | .long x :: r => f x r
  | _ => none
def am_l2 {α : Type} (st : List Value) (f : Int64 → Int64 → List Value → Option α) : Option α := match st with
  | .long y :: .long x :: r => f x y r
  | _ => none
def am_r1 {α : Type} (st : List Value) (f : Nat → List Value → Option α) : Option α := match st with
  | .ref a :: r => f a r
  | _ => none
def am_ri {α : Type} (st : List Value) (f : Nat → Int32 → List Value → Option α) : Option α := match st with
  | .int i :: .ref a :: r => f a i r
  | _ => none
def am_rii {α : Type} (st : List Value) (f : Nat → Int32 → Int32 → List Value → Option α) : Option α := match st with
  | .int v :: .int i :: .ref a :: r => f a i v r
  | _ => none
def am_rir {α : Type} (st : List Value) (f : Nat → Int32 → Nat → List Value → Option α) : Option α := match st with
  | .ref v :: .int i :: .ref a :: r => f a i v r
  | _ => none
def am_rr {α : Type} (st : List Value) (f : Nat → Nat → List Value → Option α) : Option α := match st with
  | .ref b :: .ref a :: r => f a b r
  | _ => none
/-- a value of one word -/
def am_one (v : Value) : Bool := match v with
  | .int _ => true
  | .ref _ => true
  | _ => false
def am_ldI (pc k : Nat) (L st : List Value) (h : am_H) : Option am_S := match L[k]? with
  | some (.int x) => some (pc, L, .int x :: st, h)
  | _ => none
def am_ldL (pc k : Nat) (L st : List Value) (h : am_H) : Option am_S := match L[k]? with
  | some (.long x) => some (pc, L, .long x :: st, h)
  | _ => none
def am_ldA (pc k : Nat) (L st : List Value) (h : am_H) : Option am_S := match L[k]? with
  | some (.ref x) => if x = 8 then none else some (pc, L, .ref x :: st, h)
  | _ => none
/-- behind a store at k a long that stood just ahead of it is gone -/
def am_clean (v : Value) : Value := match v with
  | .long _ => .retAddr 0
  | .double _ => .retAddr 0
  | w => w
def am_cln (L : List Value) (k : Nat) : List Value := match k with
  | 0 => L
  | j + 1 => L.set j (am_clean (L.getD j (.retAddr 0)))
def am_sto (pc k : Nat) (v : Value) (L st : List Value) (h : am_H) : Option am_S :=
  if k < L.length then some (pc, (am_cln L k).set k v, st, h) else none
def am_stL (pc k : Nat) (v : Value) (L st : List Value) (h : am_H) : Option am_S :=
  if k + 1 < L.length then some (pc, ((am_cln L k).set k v).set (k + 1) (.retAddr 0), st, h) else none
def am_stA (pc k : Nat) (L st : List Value) (h : am_H) : Option am_S := am_r1 st fun a r => if a = 8 then none else am_sto pc k (.ref a) L r h
/-- a field that holds an int -/
def am_isI (t : FieldType) : Bool := match t with
  | .int => true
  | .boolean => true
  | .byte => true
  | _ => false
def am_fitI (t : FieldType) (v : Int32) : Bool := match t with
  | .int => true
  | .boolean => v == 0 || v == 1
  | _ => false
def am_row {α : Type} (M : Nat → α) (a : Nat) (r : α) : Nat → α := fun b => if b = a then r else M b
def am_putI (h : am_H) (a k : Nat) (v : Int32) : am_H := (h.1, h.2.1, h.2.2.1, h.2.2.2.1, am_row h.2.2.2.2 a (upd (h.2.2.2.2 a) k v))
def am_putR (h : am_H) (a k b : Nat) : am_H := (h.1, h.2.1, h.2.2.1, am_row h.2.2.2.1 a (va_up (h.2.2.2.1 a) k (some b)), h.2.2.2.2)
def am_make (h : am_H) (kd : Nat × Nat) (n : Nat) : am_H := (h.1 + 1, h.2.1 + n, am_row h.2.2.1 h.1 kd, am_row h.2.2.2.1 h.1 (fun _ => none), am_row h.2.2.2.2 h.1 (fun _ => 0))
def am_getf (pc ci k : Nat) (L st : List Value) (h : am_H) : Option am_S := am_r1 st fun a r =>
  if (h.2.2.1 a).1 = ci + 3 then
    if am_isI (am_ty ci k) then some (pc + 3, L, .int (h.2.2.2.2 a k) :: r, h)
    else match h.2.2.2.1 a k with
      | some b => some (pc + 3, L, .ref b :: r, h)
      | none => none
  else none
def am_putI2 (pc ci k : Nat) (L st : List Value) (h : am_H) : Option am_S := match st with
  | .int v :: .ref a :: r => if (h.2.2.1 a).1 = ci + 3 ∧ 16 ≤ a then (if am_fitI (am_ty ci k) v then some (pc + 3, L, r, am_putI h a k v) else none) else none
  | _ => none
def am_putf (pc ci k : Nat) (L st : List Value) (h : am_H) : Option am_S :=
  if am_isI (am_ty ci k) then am_putI2 pc ci k L st h
  else am_rr st fun a b r => if (h.2.2.1 a).1 = ci + 3 ∧ 16 ≤ a ∧ b ≠ 8 then some (pc + 3, L, r, am_putR h a k b) else none
def am_br (c : Prop) [Decidable c] (tgt pc : Nat) (L st : List Value) (h : am_H) : Option am_S := if c then some (tgt, L, st, h) else some (pc + 3, L, st, h)
def am_if (cd : ClassFile.Cond) (tgt pc : Nat) (x : Int32) (L st : List Value) (h : am_H) : Option am_S := match cd with
  | .eq => am_br (x = 0) tgt pc L st h
  | .ne => am_br (¬ x = 0) tgt pc L st h
  | .lt => am_br (x < 0) tgt pc L st h
  | .ge => am_br (0 ≤ x) tgt pc L st h
  | .gt => am_br (0 < x) tgt pc L st h
  | .le => am_br (x ≤ 0) tgt pc L st h
def am_cmp (cd : ClassFile.Cond) (tgt pc : Nat) (x y : Int32) (L st : List Value) (h : am_H) : Option am_S := match cd with
  | .eq => am_br (x = y) tgt pc L st h
  | .ne => am_br (¬ x = y) tgt pc L st h
  | .lt => am_br (x < y) tgt pc L st h
  | .ge => am_br (y ≤ x) tgt pc L st h
  | .gt => am_br (y < x) tgt pc L st h
  | .le => am_br (x ≤ y) tgt pc L st h
def am_at (i : Int32) (n : Nat) {α : Type} (r : Option α) : Option α := if i < 0 ∨ n ≤ i.toNatClampNeg then none else r
def am_tsw (d lo hi : Int) (offs : Array Int) (tgt pc : Nat) (x : Int32) (L st : List Value) (h : am_H) : Option am_S :=
  if x.toInt < lo ∨ hi < x.toInt then some (tgt, L, st, h)
  else match offs[(x.toInt - lo).toNat]? with
    | some o => some (((pc : Int) + o).toNat, L, st, h)
    | none => none
def am_step (e : am_I) (pc : Nat) (L st : List Value) (h : am_H) : Option am_S :=
  match e.1 with
  | .iconst n => some (pc + 1, L, .int (Int32.ofInt n) :: st, h)
  | .bipush n => some (pc + 2, L, .int (Int8.ofInt n).toInt32 :: st, h)
  | .sipush n => some (pc + 3, L, .int (Int16.ofInt n).toInt32 :: st, h)
  | .lconst n => some (pc + 1, L, .long (Int64.ofNat n) :: st, h)
  | .iload_n k => am_ldI (pc + 1) k L st h
  | .iload k => am_ldI (pc + 2) k L st h
  | .lload_n k => am_ldL (pc + 1) k L st h
  | .lload k => am_ldL (pc + 2) k L st h
  | .aload_n k => am_ldA (pc + 1) k L st h
  | .aload k => am_ldA (pc + 2) k L st h
  | .istore_n k => am_i1 st fun x r => am_sto (pc + 1) k (.int x) L r h
  | .istore k => am_i1 st fun x r => am_sto (pc + 2) k (.int x) L r h
  | .lstore_n k => am_l1 st fun x r => am_stL (pc + 1) k (.long x) L r h
  | .lstore k => am_l1 st fun x r => am_stL (pc + 2) k (.long x) L r h
  | .astore_n k => am_stA (pc + 1) k L st h
  | .astore k => am_stA (pc + 2) k L st h
  | .iinc k n => match L[k]? with
    | some (.int x) => am_sto (pc + 3) k (.int (x + Int32.ofInt n)) L st h
    | _ => none
  | .iadd => am_i2 st fun x y r => some (pc + 1, L, .int (x + y) :: r, h)
  | .isub => am_i2 st fun x y r => some (pc + 1, L, .int (x - y) :: r, h)
  | .imul => am_i2 st fun x y r => some (pc + 1, L, .int (x * y) :: r, h)
  | .iand => am_i2 st fun x y r => some (pc + 1, L, .int (x &&& y) :: r, h)
  | .ior => am_i2 st fun x y r => some (pc + 1, L, .int (x ||| y) :: r, h)
  | .ixor => am_i2 st fun x y r => some (pc + 1, L, .int (x ^^^ y) :: r, h)
  | .idiv => am_i2 st fun x y r => if y = 0 then none else some (pc + 1, L, .int (x / y) :: r, h)
  | .irem => am_i2 st fun x y r => if y = 0 then none else some (pc + 1, L, .int (x - x / y * y) :: r, h)
  | .ineg => am_i1 st fun x r => some (pc + 1, L, .int (-x) :: r, h)
  | .ishl => am_i2 st fun x y r => some (pc + 1, L, .int (x <<< (y &&& 31)) :: r, h)
  | .ishr => am_i2 st fun x y r => some (pc + 1, L, .int (x >>> (y &&& 31)) :: r, h)
  | .iushr => am_i2 st fun x y r => some (pc + 1, L, .int (x.toUInt32 >>> (y.toUInt32 &&& Int32.toUInt32 31)).toInt32 :: r, h)
  | .ladd => am_l2 st fun x y r => some (pc + 1, L, .long (x + y) :: r, h)
  | .lsub => am_l2 st fun x y r => some (pc + 1, L, .long (x - y) :: r, h)
  | .lmul => am_l2 st fun x y r => some (pc + 1, L, .long (x * y) :: r, h)
  | .ldiv => am_l2 st fun x y r => if y = 0 then none else some (pc + 1, L, .long (x / y) :: r, h)
  | .lcmp => am_l2 st fun x y r => some (pc + 1, L, .int (lg_cmp x y) :: r, h)
  | .i2l => am_i1 st fun x r => some (pc + 1, L, .long x.toInt64 :: r, h)
  | .l2i => am_l1 st fun x r => some (pc + 1, L, .int x.toInt32 :: r, h)
  | .i2b => am_i1 st fun x r => some (pc + 1, L, .int x.toInt8.toInt32 :: r, h)
  | .i2c => am_i1 st fun x r => some (pc + 1, L, .int (x.toUInt32 % 65536).toInt32 :: r, h)
  | .dup => match st with
    | v :: r => if am_one v then some (pc + 1, L, v :: v :: r, h) else none
    | [] => none
  | .pop => match st with
    | v :: r => if am_one v then some (pc + 1, L, r, h) else none
    | [] => none
  | .dup_x1 => match st with
    | v :: w :: r => if am_one v && am_one w then some (pc + 1, L, v :: w :: v :: r, h) else none
    | _ => none
  | .dup2 => match st with
    | v :: w :: r => if am_one v && am_one w then some (pc + 1, L, v :: w :: v :: w :: r, h) else none
    | _ => none
  | .ifCond cd _ => am_i1 st fun x r => am_if cd e.2.2.1 pc x L r h
  | .if_icmp cd _ => am_i2 st fun x y r => am_cmp cd e.2.2.1 pc x y L r h
  | .goto _ => some (e.2.2.1, L, st, h)
  | .tableswitch d lo hi offs => am_i1 st fun x r => am_tsw d lo hi offs e.2.2.1 pc x L r h
  | .lookupswitch d ps => am_i1 st fun x r => some (((pc : Int) + Op.lookupswitch.offset ps.toList d x.toInt).toNat, L, r, h)
  | .getfield _ => am_getf pc e.2.2.1 e.2.2.2.1 L st h
  | .putfield _ => am_putf pc e.2.2.1 e.2.2.2.1 L st h
  | .getstatic _ => some (pc + 3, L, (if e.2.2.1 = 0 then .int 1 else if e.2.2.1 = 4 then .ref 8 else .ref e.2.2.1) :: st, h)
  | .ldc _ => some (pc + 2, L, (if e.2.2.1 = 0 then .int (Int32.ofNat e.2.2.2.1) else .ref (4 + 2 * e.2.2.2.1)) :: st, h)
  | .ldc_w _ => if e.2.2.1 = 0 then some (pc + 3, L, .int (Int32.ofNat e.2.2.2.1) :: st, h) else none
  | .iaload => am_ri st fun a i r => if (h.2.2.1 a).1 = 0 then am_at i (h.2.2.1 a).2 (some (pc + 1, L, .int (h.2.2.2.2 a i.toNatClampNeg) :: r, h)) else none
  | .baload => am_ri st fun a i r => if (h.2.2.1 a).1 = 2 then am_at i (h.2.2.1 a).2 (some (pc + 1, L, .int (h.2.2.2.2 a i.toNatClampNeg) :: r, h)) else none
  | .aaload => am_ri st fun a i r => if (h.2.2.1 a).1 = 1 then am_at i (h.2.2.1 a).2 (match h.2.2.2.1 a i.toNatClampNeg with
    | some b => some (pc + 1, L, .ref b :: r, h)
    | none => none) else none
  | .iastore => am_rii st fun a i v r => if (h.2.2.1 a).1 = 0 ∧ 16 ≤ a then am_at i (h.2.2.1 a).2 (some (pc + 1, L, r, am_putI h a i.toNatClampNeg v)) else none
  | .aastore => am_rir st fun a i v r => if (h.2.2.1 a).1 = 1 ∧ 16 ≤ a ∧ (h.2.2.1 v).1 = 12 ∧ 16 ≤ v then am_at i (h.2.2.1 a).2 (some (pc + 1, L, r, am_putR h a i.toNatClampNeg v)) else none
  | .arraylength => am_r1 st fun a r => if (h.2.2.1 a).1 ≤ 2 then some (pc + 1, L, .int (Int32.ofNat (h.2.2.1 a).2) :: r, h) else none
  | .newarray .int => am_i1 st fun n r => if n < 0 ∨ 100000 ≤ n then none else some (pc + 2, L, .ref h.1 :: r, am_make h (0, n.toNatClampNeg) n.toNatClampNeg)
  | .anewarray _ => am_i1 st fun n r => if n < 0 ∨ 100000 ≤ n ∨ e.2.2.1 ≠ 9 then none else some (pc + 3, L, .ref h.1 :: r, am_make h (1, n.toNatClampNeg) n.toNatClampNeg)
  | .new _ => some (pc + 3, L, .ref h.1 :: st, am_make h (e.2.2.1 + 3, 0) (am_Nf e.2.2.1))
  | _ => none
def am_sum (st : List Value) : Nat := (st.map fun v => v.category).sum
/-- the stack ahead of a call: what is handed over, in order, and the rest -/
def am_take (n : Nat) (st : List Value) : Option (List Value × List Value) := if n ≤ st.length ∧ am_sum (st.drop n) ≤ 8 ∧ (st.take n).all am_one = true then some ((st.take n).reverse, st.drop n) else none
def am_ent (mi : Nat) (as : List Value) : List Value := as ++ List.replicate ((am_me mi).2.2.1 - as.length) (.retAddr 0)
def am_rok (t : FieldType) (v : Int32) : Bool := match t with
  | .int => true
  | .boolean => v == 0 || v == 1
  | _ => decide (narrow t (.int v) = .int v)
/-- who is called stands there, and is of that class -/
def am_rec (mi : Nat) (as : List Value) (h : am_H) : Bool := match as with
  | .ref a :: _ => am_Rn ((h.2.2.1 a).1 - 3) == (am_me mi).1.cls && (3 ≤ (h.2.2.1 a).1) && ((h.2.2.1 a).1 ≤ 15)
  | _ => false
def am_isR (as : List Value) : Bool := match as with
  | .ref a :: _ => a != 8
  | _ => false
/-- System.arraycopy of ints -/
def am_copy (pc : Nat) (L st : List Value) (h : am_H) : Option am_S := match st with
  | .int n :: .int dp :: .ref b :: .int sp :: .ref a :: r =>
    if (h.2.2.1 a).1 = 0 ∧ (h.2.2.1 b).1 = 0 ∧ 16 ≤ a ∧ 16 ≤ b ∧ am_sum r ≤ 8 then
      if sp < 0 ∨ dp < 0 ∨ n < 0 ∨ (h.2.2.1 a).2 < sp.toNatClampNeg + n.toNatClampNeg ∨ (h.2.2.1 b).2 < dp.toNatClampNeg + n.toNatClampNeg then none
      else some (pc + 3, L, r, (h.1, h.2.1, h.2.2.1, h.2.2.2.1, am_row h.2.2.2.2 b (va_cpy (h.2.2.2.2 a) (h.2.2.2.2 b) sp.toNatClampNeg dp.toNatClampNeg n.toNatClampNeg)))
    else none
  | _ => none
/-- an answer of a method, put on the stack -/
def am_ans (v : Option Value) (st : List Value) : List Value := v.toList ++ st
abbrev am_X : Type := Nat → Nat → Nat → List Value → List Value → am_H → Option (Option Value × am_H)
/-- a call, what comes behind it by f -/
def am_cal (f : am_X) (d mi pc : Nat) (L st : List Value) (h : am_H) (e : am_I) : Option (Option Value × am_H) :=
  match d with
  | 0 => none
  | d' + 1 =>
    if e.2.2.1 = 5 then am_r1 st fun a r => if a ≠ 8 ∧ am_sum r ≤ 8 then f (d' + 1) mi (pc + 3) L r h else none
    else if e.2.2.1 = 6 then match am_copy pc L st h with
      | none => none
      | some q => f (d' + 1) mi q.1 q.2.1 q.2.2.1 q.2.2.2
    else match am_take (am_me e.2.2.2.1).2.2.2.2.1 st with
      | none => none
      | some q =>
        if (e.2.2.1 = 0 → am_rec e.2.2.2.1 q.1 h = true) ∧ ((e.2.2.1 = 2 ∨ e.2.2.1 = 4) → am_isR q.1 = true) then
          match f d' e.2.2.2.1 0 (am_ent e.2.2.2.1 q.1) [] h with
          | none => none
          | some w => f (d' + 1) mi (pc + 3) L (am_ans w.1 q.2) w.2
        else none
def am_retI (mi : Nat) (st : List Value) (h : am_H) : Option (Option Value × am_H) := match st with
  | [.int v] => match (am_me mi).2.2.2.1 with
    | some t => if am_rok t v then some (some (.int v), h) else none
    | none => none
  | _ => none
def am_retV (mi : Nat) (st : List Value) (h : am_H) : Option (Option Value × am_H) := match st with
  | [] => match (am_me mi).2.2.2.1 with
    | none => some (none, h)
    | some _ => none
  | _ => none
def am_kind (i : Instr) : Nat := match i with
  | .return_ => 1
  | .ireturn => 2
  | .invokevirtual _ => 3
  | .invokestatic _ => 3
  | .invokespecial _ => 3
  | _ => 0
/-- an instruction, what comes behind it by f -/
def am_go (f : am_X) (d mi pc : Nat) (L st : List Value) (h : am_H) (e : am_I) : Option (Option Value × am_H) :=
  if am_kind e.1 = 0 then match am_step e pc L st h with
    | none => none
    | some q => f d mi q.1 q.2.1 q.2.2.1 q.2.2.2
  else if am_kind e.1 = 1 then am_retV mi st h
  else if am_kind e.1 = 2 then am_retI mi st h
  else am_cal f d mi pc L st h e
/-- runs: n steps at most, d calls deep at most -/
def am_ex : Nat → am_X
  | 0 => fun _ _ _ _ _ _ => none
  | n + 1 => fun d mi pc L st h => match am_code mi pc with
    | none => none
    | some e => am_go (am_ex n) d mi pc L st h e
