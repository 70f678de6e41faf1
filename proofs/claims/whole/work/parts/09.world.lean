/-! MY MACHINE'S HEAP AGAINST THE REAL ONE -/
/-- what stays: class numbers, field slots, the classes of int rows and of World rows, the addresses of what stood before, the formatter, the heap at the law's start, the script's length and its ints -/
abbrev am_G : Type := (Nat → ClassId) × (Nat → Nat → Nat) × ClassId × ClassId × (Nat → Nat) × Value × Heap × Nat × (Nat → Int32)
abbrev gC (g : am_G) : Nat → ClassId := g.1
abbrev gI (g : am_G) : Nat → Nat → Nat := g.2.1
abbrev gA (g : am_G) : ClassId := g.2.2.1
abbrev gW (g : am_G) : ClassId := g.2.2.2.1
abbrev gR (g : am_G) : Nat → Nat := g.2.2.2.2.1
abbrev gF (g : am_G) : Value := g.2.2.2.2.2.1
abbrev gH (g : am_G) : Heap := g.2.2.2.2.2.2.1
abbrev gN (g : am_G) : Nat := g.2.2.2.2.2.2.2.1
abbrev gX (g : am_G) : Nat → Int32 := g.2.2.2.2.2.2.2.2
def am_ad (g : am_G) (i : Nat) : Nat := if i < 16 then gR g i else (gH g).size + (i - 16)
def am_v (g : am_G) (v : Value) : Value := match v with
  | .ref i => if i = 8 then gF g else .ref (am_ad g i)
  | w => w
def am_rv (g : am_G) (r : Option Nat) : Value := match r with
  | some b => .ref (am_ad g b)
  | none => .null
theorem am_v_ref {g : am_G} {i : Nat} (h : i ≠ 8) : am_v g (.ref i) = .ref (am_ad g i) := by simp [am_v, h]
theorem am_v_8 {g : am_G} {i : Nat} (h : i = 8) : am_v g (.ref i) = gF g := by simp [am_v, h]
def am_fv (g : am_G) (h : am_H) (i c k : Nat) : Value := if am_isI (am_ty c k) then .int (h.2.2.2.2 i k) else am_rv g (h.2.2.2.1 i k)
/-- object i lies in the heap as my machine has it -/
def am_cell (g : am_G) (h : am_H) (i : Nat) (H : Heap) : Prop := match (h.2.2.1 i).1 with
  | 0 => H[am_ad g i]? = some (arrV (gA g) (h.2.2.1 i).2 (fun j => .int (h.2.2.2.2 i j)))
  | 1 => H[am_ad g i]? = some (arrV (gW g) (h.2.2.1 i).2 (fun j => am_rv g (h.2.2.2.1 i j)))
  | 2 => False
  | c + 3 => c < 12 ∧ t_OB (am_ad g i) (gC g c) (am_Nf c) (gI g c) H (fun k => am_fv g h i c k)
/-- the texts' bytes, and the tables of sticks and letters -/
def am_sg : List Int32 := [59, 43, 45, 42, 47, 40, 41, 60, 61, 62]
def am_kw : List Int32 := [114, 105, 115, 101, 115, 32, 32, 102, 97, 108, 108, 115, 32, 32, 97, 115, 107, 115, 32, 32, 32, 119, 104, 101, 110, 32, 32, 32, 111, 114, 32, 32, 32, 32, 32, 97, 110, 100, 32, 32, 32, 32, 110, 111, 116, 32, 32, 32, 32, 118, 111, 105, 99, 101, 32, 32, 104, 101, 105, 103, 104, 116, 32, 116, 111, 112, 32, 32, 32, 32, 115, 99, 97, 114, 101, 100, 32, 119, 105, 110, 100, 32, 32, 32, 109, 105, 110, 117, 116, 101, 32, 98, 97, 115, 101, 32, 32, 32, 108, 111, 115, 116, 32, 32, 32, 100, 97, 121, 32, 32, 32, 32, 111, 110, 32, 32, 32, 32, 32, 98, 111, 121, 32, 32, 32, 32, 99, 97, 108, 109, 32, 32, 32, 115, 101, 101, 107, 32, 32, 32, 116, 114, 97, 100, 101, 114, 32, 98, 117, 121, 32, 32, 32, 32, 115, 101, 108, 108, 32, 32, 32, 111, 102, 32, 32, 32, 32, 32, 103, 111, 111, 100, 32, 32, 32, 98, 121, 32, 32, 32, 32, 32]
def am_roK (n : Nat) : Nat → Nat × Nat := fun i => match i with
  | 0 => (0, n)
  | 1 => (0, 10)
  | 2 => (0, 20)
  | 3 => (0, 10)
  | 4 => (15, 0)
  | 5 => (2, 10)
  | 6 => (15, 0)
  | 7 => (2, 182)
  | _ => (999, 0)
def am_roM (xs : Nat → Int32) : Nat → Nat → Int32 := fun i k => match i with
  | 0 => xs k
  | 1 => [6, 2, 5, 5, 4, 5, 6, 3, 7, 6].getD k 0
  | 2 => [4, 3, 3, 5, 4, 4, 3, 5, 5, 4, 3, 6, 6, 8, 8, 7, 7, 9, 8, 8].getD k 0
  | 3 => [0, 3, 6, 6, 5, 5, 5, 7, 6, 6].getD k 0
  | 5 => am_sg.getD k 0
  | 7 => am_kw.getD k 0
  | _ => 0
def am_roR : Nat → Nat → Option Nat := fun i k => match i with
  | 4 => if k = 1 then some 5 else none
  | 6 => if k = 1 then some 7 else none
  | _ => none
def am_Inv (g : am_G) (h : am_H) (H : Heap) : Prop :=
  (16 ≤ h.1 ∧ H.size + 16 = (gH g).size + h.1) ∧ (∀ q : Nat, q < (gH g).size → H[q]? = (gH g)[q]?) ∧
  (∀ i, i < 16 → h.2.2.1 i = am_roK (gN g) i ∧ (∀ k, h.2.2.2.2 i k = am_roM (gX g) i k) ∧ ∀ k, h.2.2.2.1 i k = am_roR i k) ∧
  (∀ i, h.1 ≤ i → h.2.2.1 i = (999, 0)) ∧ (∀ i k, h.2.2.2.1 i k ≠ some 8) ∧ ∀ i, 16 ≤ i → i < h.1 → am_cell g h i H
theorem am_Inv.lt {g : am_G} {h : am_H} {H : Heap} (hI : am_Inv g h H) {i : Nat} (hk : (h.2.2.1 i).1 ≠ 999) : i < h.1 :=
  Nat.lt_of_not_le fun q => hk (by rw [hI.2.2.2.1 i q])
theorem am_ad_big {g : am_G} {i : Nat} (h : 16 ≤ i) : am_ad g i = (gH g).size + (i - 16) := by simp [am_ad, Nat.not_lt.mpr h]
theorem am_ad_small {g : am_G} {i : Nat} (h : i < 16) : am_ad g i = gR g i := by simp [am_ad, h]
theorem am_ad_ge {g : am_G} {i : Nat} (h : 16 ≤ i) : (gH g).size ≤ am_ad g i := by rw [am_ad_big h]; omega
theorem am_ad_ne {g : am_G} {i j : Nat} (hi : 16 ≤ i) (hj : 16 ≤ j) (h : i ≠ j) : am_ad g i ≠ am_ad g j := by rw [am_ad_big hi, am_ad_big hj]; omega
theorem am_cell.kept {g : am_G} {h h' : am_H} {i : Nat} {H H' : Heap} (hc : am_cell g h i H) (hK : h'.2.2.1 i = h.2.2.1 i) (hM : h'.2.2.2.2 i = h.2.2.2.2 i) (hR : h'.2.2.2.1 i = h.2.2.2.1 i) (hq : H'[am_ad g i]? = H[am_ad g i]?) : am_cell g h' i H' := by
  unfold am_cell at hc ⊢
  rw [hK]
  split at hc
  · rw [hq, hM]; exact hc
  · rw [hq, hR]; exact hc
  · exact hc
  · exact ⟨hc.1, (hc.2.kept hq).to (fun k _ => by simp only [am_fv, hM, hR])⟩
/-- a row of one object changes -/
theorem am_Inv.put {g : am_G} {h h' : am_H} {H H' : Heap} {a : Nat} (hI : am_Inv g h H) (ha : 16 ≤ a) (h1 : h'.1 = h.1) (hK : h'.2.2.1 = h.2.2.1) (hM : ∀ i, i ≠ a → h'.2.2.2.2 i = h.2.2.2.2 i) (hR : ∀ i, i ≠ a → h'.2.2.2.1 i = h.2.2.2.1 i) (h8 : ∀ k, h'.2.2.2.1 a k ≠ some 8)
    (hz : H'.size = H.size) (hq : ∀ q : Nat, q ≠ am_ad g a → H'[q]? = H[q]?) (hc : am_cell g h' a H') : am_Inv g h' H' := by
  obtain ⟨⟨i1, i2⟩, i3, i4, i5, i6, i7⟩ := hI
  have hge := am_ad_ge (g := g) ha
  refine ⟨⟨by rw [h1]; exact i1, by rw [h1, hz]; exact i2⟩, fun q hq2 => ?_, fun i hi => ?_, fun i hi => ?_, fun i k => ?_, fun i hi hlt => ?_⟩
  · rw [hq q (by omega)]; exact i3 q hq2
  · rw [hK, hM i (by omega), hR i (by omega)]; exact i4 i hi
  · rw [hK]; exact i5 i (by rw [← h1]; exact hi)
  · by_cases e : i = a
    · subst e; exact h8 k
    · rw [hR i e]; exact i6 i k
  · by_cases e : i = a
    · subst e; exact hc
    · exact (i7 i hi (by rw [← h1]; exact hlt)).kept (by rw [hK]) (hM i e) (hR i e) (hq _ (am_ad_ne hi ha e))
/-- an object is made -/
theorem am_Inv.make {g : am_G} {h : am_H} {H H' : Heap} {kd : Nat × Nat} {n : Nat} (hI : am_Inv g h H) (hz : H'.size = H.size + 1) (hq : ∀ q : Nat, q < H.size → H'[q]? = H[q]?) (hc : am_cell g (am_make h kd n) h.1 H') : am_Inv g (am_make h kd n) H' := by
  obtain ⟨⟨i1, i2⟩, i3, i4, i5, i6, i7⟩ := hI
  have hrow : ∀ {α : Type} (M : Nat → α) (r : α) (i : Nat), i ≠ h.1 → am_row M h.1 r i = M i := fun M r i e => by simp [am_row, e]
  refine ⟨⟨by show 16 ≤ h.1 + 1; omega, by show H'.size + 16 = _ + (h.1 + 1); omega⟩, fun q hq2 => ?_, fun i hi => ?_, fun i hi => ?_, fun i k => ?_, fun i hi hlt => ?_⟩
  · rw [hq q (by omega)]; exact i3 q hq2
  · show am_row h.2.2.1 h.1 kd i = _ ∧ (∀ k, (am_row h.2.2.2.2 h.1 (fun _ => 0) i) k = _) ∧ ∀ k, (am_row h.2.2.2.1 h.1 (fun _ => none) i) k = _
    rw [hrow _ _ _ (by omega), hrow _ _ _ (by omega), hrow _ _ _ (by omega)]; exact i4 i hi
  · have hi' : h.1 + 1 ≤ i := hi
    show am_row _ _ _ i = _
    rw [hrow _ _ _ (by omega)]; exact i5 i (by omega)
  · show (am_row h.2.2.2.1 h.1 (fun _ => none) i) k ≠ _
    by_cases e : i = h.1
    · subst e; simp [am_row]
    · rw [hrow _ _ _ e]; exact i6 i k
  · have hlt' : i < h.1 + 1 := hlt
    by_cases e : i = h.1
    · subst e; exact hc
    · have hl2 : i < h.1 := by omega
      exact (i7 i hi hl2).kept (hrow _ _ _ e) (hrow _ _ _ e) (hrow _ _ _ e) (hq _ (by rw [am_ad_big hi]; omega))
theorem am_Inv.next {g : am_G} {h : am_H} {H : Heap} (hI : am_Inv g h H) : am_ad g h.1 = H.size := by
  have := hI.1
  rw [am_ad_big this.1]; omega
/-! locals -/
def am_L (g : am_G) (ls : Array Slot) (n : Nat) (L : List Value) : Prop := ls.size = n ∧ L.length = n ∧ lv_wf ls ∧ ∀ (i : Nat) (v : Value), L[i]? = some v → (∀ r, v ≠ .retAddr r) → ls[i]? = some (.val (am_v g v))
def am_al (g : am_G) (L : List Value) : List (Nat × Value) := (List.range L.length).filterMap fun i => match L[i]? with
  | some (Value.retAddr _) => none
  | some v => some (i, am_v g v)
  | none => none
theorem am_al_mem {g : am_G} {L : List Value} {i : Nat} {v : Value} (h : L[i]? = some v) (hv : ∀ r, v ≠ .retAddr r) : (i, am_v g v) ∈ am_al g L := by
  refine List.mem_filterMap.mpr ⟨i, List.mem_range.mpr (List.getElem?_eq_some_iff.mp h).1, ?_⟩
  rw [h]
  cases v with
  | retAddr r => exact absurd rfl (hv r)
  | _ => rfl
theorem am_al_has {g : am_G} {ls : Array Slot} {n : Nat} {L : List Value} (h : am_L g ls n L) : lv_has ls n (am_al g L) := by
  refine ⟨h.1, h.2.2.1, fun q hq => ?_⟩
  obtain ⟨i, -, hi⟩ := List.mem_filterMap.mp hq
  cases hL : L[i]? with
  | none => rw [hL] at hi; cases hi
  | some v =>
    rw [hL] at hi
    have hv : (∀ r, v ≠ .retAddr r) ∧ q = (i, am_v g v) := by
      cases v with
      | retAddr r => cases hi
      | _ => exact ⟨fun r e => (by cases e), (Option.some.inj hi).symm⟩
    rw [hv.2]
    exact h.2.2.2 i v hL hv.1
theorem am_cat {g : am_G} (hF : (gF g).category = 1) {v : Value} (h : (am_v g v).category = 2) : (∃ x, v = .long x) ∨ ∃ x, v = .double x := by
  cases v with
  | long x => exact Or.inl ⟨x, rfl⟩
  | double x => exact Or.inr ⟨x, rfl⟩
  | ref i =>
    by_cases e : i = 8
    · rw [am_v_8 e, hF] at h; cases h
    · rw [am_v_ref e] at h; cases h
  | _ => cases h
theorem am_cln_len (L : List Value) (k : Nat) : (am_cln L k).length = L.length := by
  cases k with
  | zero => rfl
  | succ j => simp [am_cln]
theorem am_cln_at {L : List Value} {k i : Nat} {u : Value} (h : (am_cln L k)[i]? = some u) (hr : ∀ r, u ≠ .retAddr r) : L[i]? = some u ∧ (i + 1 = k → (∀ x, u ≠ .long x) ∧ ∀ x, u ≠ .double x) := by
  cases k with
  | zero => exact ⟨h, fun z => by omega⟩
  | succ j =>
    unfold am_cln at h
    by_cases e : j = i
    · subst e
      have hlt : j < L.length := by have := (List.getElem?_eq_some_iff.mp h).1; simpa using this
      rw [List.getElem?_set_self hlt] at h
      have h1 : L[j]? = some (L.getD j (.retAddr 0)) := by
        rw [List.getD_eq_getElem?_getD, List.getElem?_eq_getElem hlt]; rfl
      have h2 : am_clean (L.getD j (.retAddr 0)) = u := Option.some.inj h
      generalize L.getD j (.retAddr 0) = w at h1 h2
      cases w with
      | long x => exact absurd h2.symm (hr 0)
      | double x => exact absurd h2.symm (hr 0)
      | int x => cases h2; exact ⟨h1, fun _ => ⟨fun x z => (by cases z), fun x z => (by cases z)⟩⟩
      | float x => cases h2; exact ⟨h1, fun _ => ⟨fun x z => (by cases z), fun x z => (by cases z)⟩⟩
      | null => cases h2; exact ⟨h1, fun _ => ⟨fun x z => (by cases z), fun x z => (by cases z)⟩⟩
      | ref x => cases h2; exact ⟨h1, fun _ => ⟨fun x z => (by cases z), fun x z => (by cases z)⟩⟩
      | retAddr x => exact absurd h2.symm (hr x)
    · rw [List.getElem?_set_ne e] at h
      exact ⟨h, fun z => by omega⟩
theorem am_L.sto {g : am_G} {ls : Array Slot} {n k : Nat} {L : List Value} (hF : (gF g).category = 1) (h : am_L g ls n L) {v w : Value} (hw : am_v g v = w) :
    ∀ ls' : Array Slot, lv_has ls' n ((k, w) :: (am_al g L).filter (fun q => !(q.1 == k) && !(q.1 + 1 == k && q.2.category == 2))) → am_L g ls' n ((am_cln L k).set k v) := by
  intro ls' h'
  refine ⟨h'.1, by rw [List.length_set, am_cln_len]; exact h.2.1, h'.2.1, fun i u hu hr => ?_⟩
  by_cases e : k = i
  · subst e
    have hlt : k < (am_cln L k).length := by have := (List.getElem?_eq_some_iff.mp hu).1; simpa using this
    rw [List.getElem?_set_self hlt] at hu
    cases hu
    rw [hw]
    exact h'.2.2 (k, w) List.mem_cons_self
  · rw [List.getElem?_set_ne e] at hu
    obtain ⟨hu, hn⟩ := am_cln_at hu hr
    refine h'.2.2 (i, am_v g u) (List.mem_cons_of_mem _ (List.mem_filter.mpr ⟨am_al_mem hu hr, ?_⟩))
    have e1 : (i == k) = false := by simp; omega
    by_cases e2 : i + 1 = k
    · have hc : ((am_v g u).category == 2) = false := by
        rw [beq_eq_false_iff_ne]
        intro hc
        rcases am_cat hF hc with ⟨x, rfl⟩ | ⟨x, rfl⟩
        · exact (hn e2).1 x rfl
        · exact (hn e2).2 x rfl
      simp [hc, e1]
    · have e3 : (i + 1 == k) = false := by simp; omega
      simp [e1, e3]
theorem am_L.stL {g : am_G} {ls : Array Slot} {n k : Nat} {L : List Value} (hF : (gF g).category = 1) (h : am_L g ls n L) {v w : Value} (hw : am_v g v = w) :
    ∀ ls' : Array Slot, lv_has ls' n ((k, w) :: (am_al g L).filter (fun q => !(q.1 == k) && (!(q.1 == k + 1) && !(q.1 + 1 == k && q.2.category == 2)))) → am_L g ls' n (((am_cln L k).set k v).set (k + 1) (.retAddr 0)) := by
  intro ls' h'
  refine ⟨h'.1, by rw [List.length_set, List.length_set, am_cln_len]; exact h.2.1, h'.2.1, fun i u hu hr => ?_⟩
  have hlt : i < (am_cln L k).length := by have := (List.getElem?_eq_some_iff.mp hu).1; simpa using this
  by_cases e0 : k + 1 = i
  · subst e0
    rw [List.getElem?_set_self (by rw [List.length_set]; exact hlt)] at hu
    cases hu
    exact absurd rfl (hr 0)
  · rw [List.getElem?_set_ne e0] at hu
    by_cases e : k = i
    · subst e
      rw [List.getElem?_set_self hlt] at hu
      cases hu
      rw [hw]
      exact h'.2.2 (k, w) List.mem_cons_self
    · rw [List.getElem?_set_ne e] at hu
      obtain ⟨hu, hn⟩ := am_cln_at hu hr
      refine h'.2.2 (i, am_v g u) (List.mem_cons_of_mem _ (List.mem_filter.mpr ⟨am_al_mem hu hr, ?_⟩))
      have e1 : (i == k) = false := by simp; omega
      have e4 : (i == k + 1) = false := by simp; omega
      by_cases e2 : i + 1 = k
      · have hc : ((am_v g u).category == 2) = false := by
          rw [beq_eq_false_iff_ne]
          intro hc
          rcases am_cat hF hc with ⟨x, rfl⟩ | ⟨x, rfl⟩
          · exact (hn e2).1 x rfl
          · exact (hn e2).2 x rfl
        simp [hc, e1, e4]
      · have e3 : (i + 1 == k) = false := by simp; omega
        simp [e1, e3, e4]
theorem am_sum_v {g : am_G} (hF : (gF g).category = 1) (st : List Value) : ((st.map (am_v g)).map fun v => v.category).sum = am_sum st := by
  unfold am_sum
  rw [List.map_map]
  congr 1
  refine List.map_congr_left fun v _ => ?_
  show (am_v g v).category = v.category
  cases v with
  | ref i =>
    by_cases e : i = 8
    · rw [am_v_8 e, hF]; rfl
    · rw [am_v_ref e]; rfl
  | _ => rfl
