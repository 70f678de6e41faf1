/-! ONE INSTRUCTION that calls nobody and ends nothing -/
section AMO
variable {g : am_G} {p : Program} {l : Launch} {e : Env} {R : Room} {s : State} {m : MethodId} {args : Array Value} {below : List Frame} {meth : Method} {c : Code} {H : Heap} {locs : List Loc} {cells slots : Nat} {Q : State → Prop} {mi pc : Nat} {L st : List Value} {ls : Array Slot} {h : am_H}
theorem am_if_ok {cd : ClassFile.Cond} {o : Int} {tgt : Nat} {x : Int32} {r : List Value} (hX : am_Fx p s m args meth c mi) (hI : am_Inv g h H) (hl : ∀ z ∈ locs, (gH g).size ≤ z.base) (hL : am_L g ls (am_me mi).2.2.1 L)
    (hd : decode (am_me mi).2.1 pc = .ok (.ifCond cd o, 3)) (ht : (pc : Int) + o = (tgt : Int)) {q : am_S} (hs : am_if cd tgt pc x L r h = some q) (kt : am_Kt g p l e R s m args below meth c cells slots Q mi h q) :
    W p l e R s m args below meth c H locs cells slots Q (F0 m pc ls (.int x :: r.map (am_v g))) := by
  unfold am_if at hs
  cases cd
  · obtain ⟨k1, k2⟩ := am_two hI hl hL hs kt
    exact lv_if_eq hX.1 hX.2.1 hd ht k1 k2
  · obtain ⟨k1, k2⟩ := am_two hI hl hL hs kt
    exact lv_if_ne hX.1 hX.2.1 hd ht k1 (fun z => k2 (fun n => n z))
  · obtain ⟨k1, k2⟩ := am_two hI hl hL hs kt
    exact lv_if_lt hX.1 hX.2.1 hd ht k1 k2
  · obtain ⟨k1, k2⟩ := am_two hI hl hL hs kt
    exact lv_if_ge hX.1 hX.2.1 hd ht k1 k2
  · obtain ⟨k1, k2⟩ := am_two hI hl hL hs kt
    exact lv_if_gt hX.1 hX.2.1 hd ht k1 k2
  · obtain ⟨k1, k2⟩ := am_two hI hl hL hs kt
    exact lv_if_le hX.1 hX.2.1 hd ht k1 k2
theorem am_cmp_ok {cd : ClassFile.Cond} {o : Int} {tgt : Nat} {x y : Int32} {r : List Value} (hX : am_Fx p s m args meth c mi) (hI : am_Inv g h H) (hl : ∀ z ∈ locs, (gH g).size ≤ z.base) (hL : am_L g ls (am_me mi).2.2.1 L)
    (hd : decode (am_me mi).2.1 pc = .ok (.if_icmp cd o, 3)) (ht : (pc : Int) + o = (tgt : Int)) {q : am_S} (hs : am_cmp cd tgt pc x y L r h = some q) (kt : am_Kt g p l e R s m args below meth c cells slots Q mi h q) :
    W p l e R s m args below meth c H locs cells slots Q (F0 m pc ls (.int y :: .int x :: r.map (am_v g))) := by
  unfold am_cmp at hs
  cases cd
  · obtain ⟨k1, k2⟩ := am_two hI hl hL hs kt
    exact lv_icmp_eq hX.1 hX.2.1 hd ht k1 k2
  · obtain ⟨k1, k2⟩ := am_two hI hl hL hs kt
    exact lv_icmp_ne hX.1 hX.2.1 hd ht k1 (fun z => k2 (fun n => n z))
  · obtain ⟨k1, k2⟩ := am_two hI hl hL hs kt
    exact lv_icmp_lt hX.1 hX.2.1 hd ht k1 k2
  · obtain ⟨k1, k2⟩ := am_two hI hl hL hs kt
    exact lv_icmp_ge hX.1 hX.2.1 hd ht k1 k2
  · obtain ⟨k1, k2⟩ := am_two hI hl hL hs kt
    exact lv_icmp_gt hX.1 hX.2.1 hd ht k1 k2
  · obtain ⟨k1, k2⟩ := am_two hI hl hL hs kt
    exact lv_icmp_le hX.1 hX.2.1 hd ht k1 k2
theorem am_off : ∀ (ps : List (Int × Int)) (d x : Int), Op.lookupswitch.offset ps d x = d ∨ ∃ q ∈ ps, Op.lookupswitch.offset ps d x = q.2
  | [], d, x => Or.inl rfl
  | q :: ps, d, x => by
    rw [Op.lookupswitch.offset_cons]
    by_cases hq : q.1 = x
    · rw [if_pos hq]; exact Or.inr ⟨q, List.mem_cons_self, rfl⟩
    · rw [if_neg hq]
      rcases am_off ps d x with z | ⟨y, hy, z⟩
      · exact Or.inl z
      · exact Or.inr ⟨y, List.mem_cons_of_mem _ hy, z⟩
set_option maxHeartbeats 4000000 in
set_option maxRecDepth 100000 in
theorem am_step_ok {i : Instr} {len r1 r2 r3 : Nat} (hX : am_Fx p s m args meth c mi) (hC : am_Cx g s) (hI : am_Inv g h H) (hl : ∀ z ∈ locs, (gH g).size ≤ z.base) (hL : am_L g ls (am_me mi).2.2.1 L)
    (hc : am_chk mi pc (i, len, r1, r2, r3) = true) {q : am_S} (hs : am_step (i, len, r1, r2, r3) pc L st h = some q)
    (hcells : cells + (q.2.2.2.1 - h.1) ≤ R.cells) (hslots : slots + (q.2.2.2.2.1 - h.2.1) ≤ R.slots) (kt : am_Kt g p l e R s m args below meth c cells slots Q mi h q) :
    W p l e R s m args below meth c H locs cells slots Q (F0 m pc ls (st.map (am_v g))) := by
  have hx := hX.1
  have hb := hX.2.1
  have hown := hX.2.2.2.1
  have hts := hX.2.2.2.2.2.2.2
  unfold am_chk at hc
  rw [Bool.and_eq_true, Bool.and_eq_true, decide_eq_true_eq] at hc
  obtain ⟨⟨hd, hlen⟩, hlk⟩ := hc
  have hF := hC.F
  have hal := am_al_has hL
  have hLn : L.length = (am_me mi).2.2.1 := hL.2.1
  cases i with
  | iconst n =>
    obtain rfl : len = 1 := by simpa [am_isSw, am_len] using hlen
    cases hs
    exact lv_iconst hx hb hd rfl (kt.same hI hl hL)
  | bipush n =>
    obtain rfl : len = 2 := by simpa [am_isSw, am_len] using hlen
    cases hs
    exact lv_bipush hx hb hd rfl (kt.same hI hl hL)
  | sipush n =>
    obtain rfl : len = 3 := by simpa [am_isSw, am_len] using hlen
    cases hs
    exact lv_sipush hx hb hd rfl (kt.same hI hl hL)
  | lconst n =>
    obtain rfl : len = 1 := by simpa [am_isSw, am_len] using hlen
    cases hs
    exact lv_lconst hx hb hd rfl (kt.same hI hl hL)
  | iload_n k =>
    obtain rfl : len = 1 := by simpa [am_isSw, am_len] using hlen
    replace hs := am_ldI_s hs
    obtain ⟨x, hk, rfl⟩ := hs
    exact lv_iload_n hx hb hd rfl (am_locI hL hk) (kt.same hI hl hL)
  | iload k =>
    obtain rfl : len = 2 := by simpa [am_isSw, am_len] using hlen
    replace hs := am_ldI_s hs
    obtain ⟨x, hk, rfl⟩ := hs
    exact lv_iload hx hb hd (am_locI hL hk) (kt.same hI hl hL)
  | lload_n k =>
    obtain rfl : len = 1 := by simpa [am_isSw, am_len] using hlen
    replace hs := am_ldL_s hs
    obtain ⟨x, hk, rfl⟩ := hs
    exact lv_lload_n hx hb hd rfl (am_locL hL hk) (kt.same hI hl hL)
  | lload k =>
    obtain rfl : len = 2 := by simpa [am_isSw, am_len] using hlen
    replace hs := am_ldL_s hs
    obtain ⟨x, hk, rfl⟩ := hs
    exact lv_lload hx hb hd (am_locL hL hk) (kt.same hI hl hL)
  | aload_n k =>
    obtain rfl : len = 1 := by simpa [am_isSw, am_len] using hlen
    replace hs := am_ldA_s hs
    obtain ⟨x, hk, h8, rfl⟩ := hs
    have k9 := kt.same hI hl hL
    rw [List.map_cons, am_v_ref h8] at k9
    exact lv_aload_n hx hb hd rfl (am_locA hL hk h8) k9
  | aload k =>
    obtain rfl : len = 2 := by simpa [am_isSw, am_len] using hlen
    replace hs := am_ldA_s hs
    obtain ⟨x, hk, h8, rfl⟩ := hs
    have k9 := kt.same hI hl hL
    rw [List.map_cons, am_v_ref h8] at k9
    exact lv_aload hx hb hd (am_locA hL hk h8) k9
  | istore_n k =>
    obtain rfl : len = 1 := by simpa [am_isSw, am_len] using hlen
    replace hs := am_i1_s hs
    obtain ⟨x, r, rfl, hs⟩ := hs
    replace hs := am_sto_s hs
    obtain ⟨hk, rfl⟩ := hs
    exact lv_istore_n hx hb hd rfl hal (by rw [← hLn]; exact hk) rfl (fun ls' h' => kt.same hI hl (hL.sto hF rfl ls' h'))
  | istore k =>
    obtain rfl : len = 2 := by simpa [am_isSw, am_len] using hlen
    replace hs := am_i1_s hs
    obtain ⟨x, r, rfl, hs⟩ := hs
    replace hs := am_sto_s hs
    obtain ⟨hk, rfl⟩ := hs
    exact lv_istore hx hb hd hal (by rw [← hLn]; exact hk) rfl (fun ls' h' => kt.same hI hl (hL.sto hF rfl ls' h'))
  | lstore_n k =>
    obtain rfl : len = 1 := by simpa [am_isSw, am_len] using hlen
    replace hs := am_l1_s hs
    obtain ⟨x, r, rfl, hs⟩ := hs
    replace hs := am_stL_s hs
    obtain ⟨hk, rfl⟩ := hs
    exact lv_lstore_n hx hb hd rfl hal (by rw [← hLn]; exact hk) rfl (fun ls' h' => kt.same hI hl (hL.stL hF rfl ls' h'))
  | lstore k =>
    obtain rfl : len = 2 := by simpa [am_isSw, am_len] using hlen
    replace hs := am_l1_s hs
    obtain ⟨x, r, rfl, hs⟩ := hs
    replace hs := am_stL_s hs
    obtain ⟨hk, rfl⟩ := hs
    exact lv_lstore hx hb hd hal (by rw [← hLn]; exact hk) rfl (fun ls' h' => kt.same hI hl (hL.stL hF rfl ls' h'))
  | astore_n k =>
    obtain rfl : len = 1 := by simpa [am_isSw, am_len] using hlen
    replace hs := am_stA_s hs
    obtain ⟨a, r, rfl, h8, hk, rfl⟩ := hs
    rw [List.map_cons, am_v_ref h8]
    exact lv_astore_n hx hb hd rfl hal (by rw [← hLn]; exact hk) rfl (fun ls' h' => kt.same hI hl (hL.sto hF (am_v_ref h8) ls' h'))
  | astore k =>
    obtain rfl : len = 2 := by simpa [am_isSw, am_len] using hlen
    replace hs := am_stA_s hs
    obtain ⟨a, r, rfl, h8, hk, rfl⟩ := hs
    rw [List.map_cons, am_v_ref h8]
    exact lv_astore hx hb hd hal (by rw [← hLn]; exact hk) rfl (fun ls' h' => kt.same hI hl (hL.sto hF (am_v_ref h8) ls' h'))
  | iinc k n =>
    obtain rfl : len = 3 := by simpa [am_isSw, am_len] using hlen
    simp only [am_step] at hs
    split at hs
    · rename_i x hk
      replace hs := am_sto_s hs
      obtain ⟨hk2, rfl⟩ := hs
      obtain ⟨j, hj⟩ := List.getElem?_of_mem (am_al_mem (g := g) hk (fun r z => by cases z))
      exact lv_iinc hx hb hd hal hj rfl (by rw [← hLn]; exact hk2) rfl (fun ls' h' => kt.same hI hl (hL.sto hF rfl ls' h'))
    · cases hs
  | iadd =>
    obtain rfl : len = 1 := by simpa [am_isSw, am_len] using hlen
    replace hs := am_i2_s hs
    obtain ⟨x, y, r, rfl, hs⟩ := hs
    cases hs
    exact lv_iadd hx hb hd (kt.same hI hl hL)
  | isub =>
    obtain rfl : len = 1 := by simpa [am_isSw, am_len] using hlen
    replace hs := am_i2_s hs
    obtain ⟨x, y, r, rfl, hs⟩ := hs
    cases hs
    exact lv_isub hx hb hd (kt.same hI hl hL)
  | imul =>
    obtain rfl : len = 1 := by simpa [am_isSw, am_len] using hlen
    replace hs := am_i2_s hs
    obtain ⟨x, y, r, rfl, hs⟩ := hs
    cases hs
    exact lv_imul hx hb hd (kt.same hI hl hL)
  | iand =>
    obtain rfl : len = 1 := by simpa [am_isSw, am_len] using hlen
    replace hs := am_i2_s hs
    obtain ⟨x, y, r, rfl, hs⟩ := hs
    cases hs
    exact lv_iand hx hb hd (kt.same hI hl hL)
  | ior =>
    obtain rfl : len = 1 := by simpa [am_isSw, am_len] using hlen
    replace hs := am_i2_s hs
    obtain ⟨x, y, r, rfl, hs⟩ := hs
    cases hs
    exact lv_ior hx hb hd (kt.same hI hl hL)
  | ixor =>
    obtain rfl : len = 1 := by simpa [am_isSw, am_len] using hlen
    replace hs := am_i2_s hs
    obtain ⟨x, y, r, rfl, hs⟩ := hs
    cases hs
    exact lv_ixor hx hb hd (kt.same hI hl hL)
  | idiv =>
    obtain rfl : len = 1 := by simpa [am_isSw, am_len] using hlen
    replace hs := am_i2_s hs
    obtain ⟨x, y, r, rfl, hs⟩ := hs
    split at hs
    · cases hs
    · rename_i hne
      cases hs
      exact lv_idiv hx hb hd hne (kt.same hI hl hL)
  | irem =>
    obtain rfl : len = 1 := by simpa [am_isSw, am_len] using hlen
    replace hs := am_i2_s hs
    obtain ⟨x, y, r, rfl, hs⟩ := hs
    split at hs
    · cases hs
    · rename_i hne
      cases hs
      exact lv_irem hx hb hd hne (kt.same hI hl hL)
  | ineg =>
    obtain rfl : len = 1 := by simpa [am_isSw, am_len] using hlen
    replace hs := am_i1_s hs
    obtain ⟨x, r, rfl, hs⟩ := hs
    cases hs
    exact lv_ineg hx hb hd (kt.same hI hl hL)
  | ishl =>
    obtain rfl : len = 1 := by simpa [am_isSw, am_len] using hlen
    replace hs := am_i2_s hs
    obtain ⟨x, y, r, rfl, hs⟩ := hs
    cases hs
    exact lv_ishl hx hb hd (kt.same hI hl hL)
  | ishr =>
    obtain rfl : len = 1 := by simpa [am_isSw, am_len] using hlen
    replace hs := am_i2_s hs
    obtain ⟨x, y, r, rfl, hs⟩ := hs
    cases hs
    exact lv_ishr hx hb hd (kt.same hI hl hL)
  | iushr =>
    obtain rfl : len = 1 := by simpa [am_isSw, am_len] using hlen
    replace hs := am_i2_s hs
    obtain ⟨x, y, r, rfl, hs⟩ := hs
    cases hs
    exact lv_iushr hx hb hd rfl (kt.same hI hl hL)
  | ladd =>
    obtain rfl : len = 1 := by simpa [am_isSw, am_len] using hlen
    replace hs := am_l2_s hs
    obtain ⟨x, y, r, rfl, hs⟩ := hs
    cases hs
    exact lv_ladd hx hb hd (kt.same hI hl hL)
  | lsub =>
    obtain rfl : len = 1 := by simpa [am_isSw, am_len] using hlen
    replace hs := am_l2_s hs
    obtain ⟨x, y, r, rfl, hs⟩ := hs
    cases hs
    exact lv_lsub hx hb hd (kt.same hI hl hL)
  | lmul =>
    obtain rfl : len = 1 := by simpa [am_isSw, am_len] using hlen
    replace hs := am_l2_s hs
    obtain ⟨x, y, r, rfl, hs⟩ := hs
    cases hs
    exact lv_lmul hx hb hd (kt.same hI hl hL)
  | ldiv =>
    obtain rfl : len = 1 := by simpa [am_isSw, am_len] using hlen
    replace hs := am_l2_s hs
    obtain ⟨x, y, r, rfl, hs⟩ := hs
    split at hs
    · cases hs
    · rename_i hne
      cases hs
      exact lv_ldiv hx hb hd hne (kt.same hI hl hL)
  | lcmp =>
    obtain rfl : len = 1 := by simpa [am_isSw, am_len] using hlen
    replace hs := am_l2_s hs
    obtain ⟨x, y, r, rfl, hs⟩ := hs
    cases hs
    exact W.lcmp hx hb hd (kt.same hI hl hL)
  | i2l =>
    obtain rfl : len = 1 := by simpa [am_isSw, am_len] using hlen
    replace hs := am_i1_s hs
    obtain ⟨x, r, rfl, hs⟩ := hs
    cases hs
    exact lv_i2l hx hb hd rfl (kt.same hI hl hL)
  | l2i =>
    obtain rfl : len = 1 := by simpa [am_isSw, am_len] using hlen
    replace hs := am_l1_s hs
    obtain ⟨x, r, rfl, hs⟩ := hs
    cases hs
    exact lv_l2i hx hb hd rfl (kt.same hI hl hL)
  | i2b =>
    obtain rfl : len = 1 := by simpa [am_isSw, am_len] using hlen
    replace hs := am_i1_s hs
    obtain ⟨x, r, rfl, hs⟩ := hs
    cases hs
    exact lv_i2b hx hb hd rfl (kt.same hI hl hL)
  | i2c =>
    obtain rfl : len = 1 := by simpa [am_isSw, am_len] using hlen
    replace hs := am_i1_s hs
    obtain ⟨x, r, rfl, hs⟩ := hs
    cases hs
    exact lv_i2c hx hb hd rfl (kt.same hI hl hL)
  | dup =>
    obtain rfl : len = 1 := by simpa [am_isSw, am_len] using hlen
    simp only [am_step] at hs
    split at hs
    · split at hs
      · rename_i h1
        cases hs
        exact lv_dup hx hb hd (am_one_c hF h1) (kt.same hI hl hL)
      · cases hs
    · cases hs
  | pop =>
    obtain rfl : len = 1 := by simpa [am_isSw, am_len] using hlen
    simp only [am_step] at hs
    split at hs
    · split at hs
      · rename_i h1
        cases hs
        exact lv_pop hx hb hd (am_one_c hF h1) (kt.same hI hl hL)
      · cases hs
    · cases hs
  | dup_x1 =>
    obtain rfl : len = 1 := by simpa [am_isSw, am_len] using hlen
    simp only [am_step] at hs
    split at hs
    · split at hs
      · rename_i h1
        rw [Bool.and_eq_true] at h1
        cases hs
        exact lv_dup_x1 hx hb hd (am_one_c hF h1.1) (am_one_c hF h1.2) (kt.same hI hl hL)
      · cases hs
    · cases hs
  | dup2 =>
    obtain rfl : len = 1 := by simpa [am_isSw, am_len] using hlen
    simp only [am_step] at hs
    split at hs
    · split at hs
      · rename_i h1
        rw [Bool.and_eq_true] at h1
        cases hs
        exact lv_dup2_11 hx hb hd (am_one_c hF h1.1) (am_one_c hF h1.2) (kt.same hI hl hL)
      · cases hs
    · cases hs
  | ifCond cd o =>
    obtain rfl : len = 3 := by simpa [am_isSw, am_len] using hlen
    replace hs := am_i1_s hs
    obtain ⟨x, r, rfl, hs⟩ := hs
    exact am_if_ok hX hI hl hL hd (by simpa [am_lnk] using hlk) hs kt
  | if_icmp cd o =>
    obtain rfl : len = 3 := by simpa [am_isSw, am_len] using hlen
    replace hs := am_i2_s hs
    obtain ⟨x, y, r, rfl, hs⟩ := hs
    exact am_cmp_ok hX hI hl hL hd (by simpa [am_lnk] using hlk) hs kt
  | goto o =>
    obtain rfl : len = 3 := by simpa [am_isSw, am_len] using hlen
    cases hs
    exact lv_goto hx hb hd (by simpa [am_lnk] using hlk) (kt.same hI hl hL)
  | tableswitch d lo hi offs =>
    replace hs := am_i1_s hs
    obtain ⟨x, r, rfl, hs⟩ := hs
    unfold am_tsw at hs
    simp only [am_lnk, Bool.and_eq_true, decide_eq_true_eq, List.all_eq_true] at hlk
    split at hs
    · rename_i h1
      cases hs
      exact lv_tableOut hx hb hd h1 hlk.1 (kt.same hI hl hL)
    · rename_i h1
      split at hs
      · rename_i o ho
        cases hs
        have h9 : 0 ≤ (pc : Int) + o := hlk.2 o (Array.mem_toList_iff.mpr (Array.mem_of_getElem? ho))
        exact lv_tableIn hx hb hd (fun z => h1 (Or.inl z)) (fun z => h1 (Or.inr z)) ho (by omega) (kt.same hI hl hL)
      · cases hs
  | lookupswitch d ps =>
    replace hs := am_i1_s hs
    obtain ⟨x, r, rfl, hs⟩ := hs
    cases hs
    simp only [am_lnk, Bool.and_eq_true] at hlk
    obtain ⟨⟨l1, l2⟩, l3⟩ := hlk
    rw [decide_eq_true_eq] at l1
    have h9 : 0 ≤ (pc : Int) + Op.lookupswitch.offset ps.toList d x.toInt := by
      rcases am_off ps.toList d x.toInt with z | ⟨y, hy, z⟩
      · rw [z]; exact l1
      · rw [z]; simpa using List.all_eq_true.mp l2 y hy
    exact lv_lookup hx hb hd l3 rfl (by omega) (kt.same hI hl hL)
  | getfield j =>
    obtain rfl : len = 3 := by simpa [am_isSw, am_len] using hlen
    simp only [am_lnk, Bool.and_eq_true, decide_eq_true_eq] at hlk
    exact am_getf_ok hX hC hI hl hL hd hlk.1.1 hlk.1.2 (am_lkF_in hlk.2) hs kt
  | putfield j =>
    obtain rfl : len = 3 := by simpa [am_isSw, am_len] using hlen
    simp only [am_lnk, Bool.and_eq_true, decide_eq_true_eq] at hlk
    exact am_putf_ok hX hC hI hl hL hd hlk.1.1.1 hlk.1.1.2 (am_lkF_in hlk.1.2) hlk.2 hs kt
  | getstatic j =>
    obtain rfl : len = 3 := by simpa [am_isSw, am_len] using hlen
    simp only [am_lnk, Bool.and_eq_true, decide_eq_true_eq] at hlk
    cases hs
    obtain ⟨cf, kf, fi, f, a, cell, h1, h2, h3, h4, h5, h6, h7, h8⟩ := hC.2.2.2.1 r1 hlk.1
    refine W.gets hx hb hown (hts _ (am_lkF_in hlk.2)) h1 h2 h3 h4 (by rw [hI.2.1 a (Nat.lt_of_not_le h8)]; exact h5) (fun z => by rw [z] at h6; cases h6) h7 rfl hd ?_
    have k9 := kt.same hI hl hL
    rw [List.map_cons] at k9
    have e9 : am_v g (if r1 = 0 then Value.int 1 else if r1 = 4 then Value.ref 8 else Value.ref r1) = am_stv g r1 := by
      rcases (show r1 = 0 ∨ r1 = 1 ∨ r1 = 2 ∨ r1 = 3 ∨ r1 = 4 by have := hlk.1; omega) with q | q | q | q | q <;> subst q
      · rfl
      · exact am_v_ref (by omega)
      · exact am_v_ref (by omega)
      · exact am_v_ref (by omega)
      · exact am_v_8 rfl
    have k10 : W p l e R s m args below meth c H locs cells slots Q (F0 m (pc + 3) ls (am_v g (if r1 = 0 then Value.int 1 else if r1 = 4 then Value.ref 8 else Value.ref r1) :: st.map (am_v g))) := k9
    rw [e9] at k10
    exact k10
  | ldc j =>
    obtain rfl : len = 2 := by simpa [am_isSw, am_len] using hlen
    cases hs
    have k9 : W p l e R s m args below meth c H locs cells slots Q (F0 m (pc + 2) ls (am_v g (if r1 = 0 then Value.int (Int32.ofNat r2) else Value.ref (4 + 2 * r2)) :: st.map (am_v g))) := kt.same hI hl hL
    simp only [am_lnk] at hlk
    by_cases h1 : r1 = 0
    · rw [if_pos h1] at hlk k9
      exact lv_ldc hx hb hown (hts _ (am_lkK_in hlk)) hd k9
    · rw [if_neg h1] at hlk k9
      simp only [Bool.and_eq_true, decide_eq_true_eq, beq_iff_eq] at hlk
      obtain ⟨⟨l1, l2⟩, l3⟩ := hlk
      obtain ⟨-, -, -, -, hvk⟩ := hC.2.2.2.2.2.2.1 r2 l1
      rw [am_v_ref (by omega), am_ad_small (by omega)] at k9
      rw [l2] at hown
      rw [l3] at hd
      exact va_ldcS hx hb hown hvk hd k9
  | ldc_w j =>
    obtain rfl : len = 3 := by simpa [am_isSw, am_len] using hlen
    simp only [am_step] at hs
    simp only [am_lnk, Bool.and_eq_true] at hlk
    split at hs
    · cases hs
      exact lv_ldcw hx hb hown (hts _ (am_lkK_in hlk.2)) hd (kt.same hI hl hL)
    · cases hs
  | iaload =>
    obtain rfl : len = 1 := by simpa [am_isSw, am_len] using hlen
    exact am_iald_ok hX hC hI hl hL hd hs kt
  | baload =>
    obtain rfl : len = 1 := by simpa [am_isSw, am_len] using hlen
    exact am_bald_ok hX hC hI hl hL hd hs kt
  | aaload =>
    obtain rfl : len = 1 := by simpa [am_isSw, am_len] using hlen
    exact am_aald_ok hX hC hI hl hL hd hs kt
  | iastore =>
    obtain rfl : len = 1 := by simpa [am_isSw, am_len] using hlen
    exact am_iast_ok hX hC hI hl hL hd hs kt
  | aastore =>
    obtain rfl : len = 1 := by simpa [am_isSw, am_len] using hlen
    exact am_aast_ok hX hC hI hl hL hd hs kt
  | arraylength =>
    obtain rfl : len = 1 := by simpa [am_isSw, am_len] using hlen
    exact am_alen_ok hX hC hI hl hL hd hs kt
  | newarray t =>
    obtain rfl : len = 2 := by simpa [am_isSw, am_len] using hlen
    cases t with
    | int => exact am_newa_ok hX hC hI hl hL hd hs hcells hslots kt
    | _ => cases hs
  | anewarray j =>
    obtain rfl : len = 3 := by simpa [am_isSw, am_len] using hlen
    simp only [am_lnk, Bool.and_eq_true] at hlk
    exact am_anew_ok hX hC hI hl hL hd (am_lkN_in hlk.2) hs hcells hslots kt
  | new j =>
    obtain rfl : len = 3 := by simpa [am_isSw, am_len] using hlen
    simp only [am_lnk, Bool.and_eq_true, decide_eq_true_eq] at hlk
    cases hs
    exact am_new_ok hX hC hI hl hL hd hlk.1 (am_lkN_in hlk.2) (by have : cells + (h.1 + 1 - h.1) ≤ R.cells := hcells; omega) (by have : slots + (h.2.1 + am_Nf r1 - h.2.1) ≤ R.slots := hslots; omega) kt
  | _ => cases hs
end AMO
