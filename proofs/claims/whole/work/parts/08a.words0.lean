/-! WORDS: what the tables say of links, methods and classes -/
def am_tb : List Cond := lw_tbl.filter goodWord
theorem am_tb_in {i : Nat} {w : Cond} (h : lw_tbl[i]? = some w) (hg : goodWord w = true) : w ∈ am_tb := List.mem_filter.mpr ⟨List.mem_of_getElem? h, hg⟩
theorem am_tb_good : GoodIn am_tb am_tb := fun w h => ⟨h, good_of_word (List.mem_filter.mp h).2⟩
def am_okw (i : Nat) (w : Cond) : Bool := decide (lw_tbl[i]? = some w) && goodWord w
theorem am_okw_in {i : Nat} {w : Cond} (h : am_okw i w = true) : w ∈ am_tb := by
  unfold am_okw at h
  rw [Bool.and_eq_true, decide_eq_true_eq] at h
  exact am_tb_in h.1 h.2
set_option maxRecDepth 100000 in
theorem am_fl_ok : am_fl.all (fun q => am_okw q.2.2.2.2.2 (.fieldLink q.1 q.2.1 q.2.2.1 q.2.2.2.1 q.2.2.2.2.1)) = true := by decide +kernel
def am_clw (q : String × Nat × Nat × Nat × Nat) : Bool := match q.2.2.1 with
  | 0 => am_okw q.2.2.2.2 (.methodLink q.1 q.2.1 (am_me q.2.2.2.1).1) && (am_me q.2.2.2.1).2.2.2.2.2.1 == 0 && (am_me q.2.2.2.1).1.name != "<init>" && decide (1 ≤ q.2.2.2.1) && decide (q.2.2.2.1 < 313)
  | 1 => am_okw q.2.2.2.2 (.methodLink q.1 q.2.1 (am_me q.2.2.2.1).1) && (am_me q.2.2.2.1).2.2.2.2.2.1 == 1 && decide (1 ≤ q.2.2.2.1) && decide (q.2.2.2.1 < 313)
  | 2 => am_okw q.2.2.2.2 (.methodLink q.1 q.2.1 (am_me q.2.2.2.1).1) && (am_me q.2.2.2.1).2.2.2.2.2.1 == 0 && (am_me q.2.2.2.1).1.name == "<init>" && decide (1 ≤ q.2.2.2.1) && decide (q.2.2.2.1 < 313)
  | 3 => decide (lw_tbl[q.2.2.2.2]? = some (.methodLinkNest q.1 q.2.1 (am_me q.2.2.2.1).1 "LarkExchange")) && (am_me q.2.2.2.1).2.2.2.2.2.1 == 1 && decide (1 ≤ q.2.2.2.1) && decide (q.2.2.2.1 < 313)
  | 4 => decide (lw_tbl[q.2.2.2.2]? = some (.methodLinkNest q.1 q.2.1 (am_me q.2.2.2.1).1 "LarkExchange")) && (am_me q.2.2.2.1).2.2.2.2.2.1 == 0 && (am_me q.2.2.2.1).1.name == "<init>" && decide (1 ≤ q.2.2.2.1) && decide (q.2.2.2.1 < 313)
  | 5 => am_okw q.2.2.2.2 (.methodLink q.1 q.2.1 objectInit)
  | _ => am_okw q.2.2.2.2 (.methodLink q.1 q.2.1 arraycopyName)
set_option maxRecDepth 100000 in
theorem am_cl_ok : am_cl.all am_clw = true := by decide +kernel
set_option maxRecDepth 100000 in
theorem am_nl_ok : am_nl.all (fun q => am_okw q.2.2.2 (.classLink q.1 q.2.1 q.2.2.1)) = true := by decide +kernel
set_option maxRecDepth 100000 in
theorem am_ct_ok : am_ct.all (fun q => am_okw q.2.2.2 (.constant q.1 q.2.1 q.2.2.1)) = true := by decide +kernel
/-- what the words say of a method -/
def am_mew (q : am_Me) : Bool := am_okw q.2.2.2.2.2.2.2.1 (.initialized q.1.cls) &&
  (if q.2.2.2.2.2.1 = 1 then am_okw q.2.2.2.2.2.2.2.2.1 (.static q.1) else am_okw q.2.2.2.2.2.2.2.2.1 (.instanceMethod q.1) && (if q.1.name = "<init>" then q.2.2.2.1 == none else am_okw q.2.2.2.2.2.2.2.2.2 (.selects q.1.cls q.1 q.1))) &&
  decide (q.1.cls ≠ "java/lang/invoke/MethodHandle") && decide (q.1.cls ≠ "java/lang/invoke/VarHandle") &&
  decide ((parseMethodDescriptor q.1.desc).map (fun d => d.parameters.length + (1 - q.2.2.2.2.2.1)) = some q.2.2.2.2.1) && decide (q.2.2.1 ≤ 10) && decide (q.2.2.2.2.1 ≤ q.2.2.1) && decide (q.2.2.2.2.2.1 ≤ 1)
