/-! ONE INSTRUCTION of my machine is one of the real one -/
section AMS
variable {g : am_G} {p : Program} {l : Launch} {e : Env} {R : Room} {s : State} {m : MethodId} {args : Array Value} {below : List Frame} {meth : Method} {c : Code} {H : Heap} {locs : List Loc} {cells slots : Nat} {Q : State → Prop} {mi pc : Nat} {L st : List Value} {ls : Array Slot} {h : am_H}
/-- what comes behind -/
def am_Kt (g : am_G) (p : Program) (l : Launch) (e : Env) (R : Room) (s : State) (m : MethodId) (args : Array Value) (below : List Frame) (meth : Method) (c : Code) (cells slots : Nat) (Q : State → Prop) (mi : Nat) (h : am_H) (q : am_S) : Prop :=
  ∀ (H1 : Heap) (locs1 : List Loc) (ls1 : Array Slot), am_Inv g q.2.2.2 H1 → (∀ z ∈ locs1, (gH g).size ≤ z.base) → am_L g ls1 (am_me mi).2.2.1 q.2.1 →
    W p l e R s m args below meth c H1 locs1 (cells + (q.2.2.2.1 - h.1)) (slots + (q.2.2.2.2.1 - h.2.1)) Q (F0 m q.1 ls1 (q.2.2.1.map (am_v g)))
theorem am_Kt.same {pc' : Nat} {L' st' : List Value} {ls' : Array Slot} (k : am_Kt g p l e R s m args below meth c cells slots Q mi h (pc', L', st', h)) (hI : am_Inv g h H) (hl : ∀ z ∈ locs, (gH g).size ≤ z.base) (hL : am_L g ls' (am_me mi).2.2.1 L') : W p l e R s m args below meth c H locs cells slots Q (F0 m pc' ls' (st'.map (am_v g))) := by
  have h9 : W p l e R s m args below meth c H locs (cells + (h.1 - h.1)) (slots + (h.2.1 - h.2.1)) Q (F0 m pc' ls' (st'.map (am_v g))) := k H locs ls' hI hl hL
  rw [Nat.sub_self, Nat.sub_self] at h9
  exact h9
theorem am_Kt.putk {pc' : Nat} {L' st' : List Value} {h' : am_H} {ls' : Array Slot} (k : am_Kt g p l e R s m args below meth c cells slots Q mi h (pc', L', st', h')) (e1 : h'.1 = h.1) (e2 : h'.2.1 = h.2.1) (hI : am_Inv g h' H) (hl : ∀ z ∈ locs, (gH g).size ≤ z.base) (hL : am_L g ls' (am_me mi).2.2.1 L') : W p l e R s m args below meth c H locs cells slots Q (F0 m pc' ls' (st'.map (am_v g))) := by
  have h9 : W p l e R s m args below meth c H locs (cells + (h'.1 - h.1)) (slots + (h'.2.1 - h.2.1)) Q (F0 m pc' ls' (st'.map (am_v g))) := k H locs ls' hI hl hL
  rw [e1, e2, Nat.sub_self, Nat.sub_self] at h9
  exact h9
variable (hX : am_Fx p s m args meth c mi) (hC : am_Cx g s) (hI : am_Inv g h H) (hl : ∀ z ∈ locs, (gH g).size ≤ z.base) (hL : am_L g ls (am_me mi).2.2.1 L)
theorem am_locI {k : Nat} {x : Int32} (hL : am_L g ls (am_me mi).2.2.1 L) (hk : L[k]? = some (.int x)) : ls[k]? = some (.val (.int x)) := hL.2.2.2 k _ hk (fun r e => by cases e)
theorem am_locL {k : Nat} {x : Int64} (hL : am_L g ls (am_me mi).2.2.1 L) (hk : L[k]? = some (.long x)) : ls[k]? = some (.val (.long x)) := hL.2.2.2 k _ hk (fun r e => by cases e)
theorem am_locA {k : Nat} {x : Nat} (hL : am_L g ls (am_me mi).2.2.1 L) (hk : L[k]? = some (.ref x)) (h8 : x ≠ 8) : ls[k]? = some (.val (.ref (am_ad g x))) := by
  have h1 := hL.2.2.2 k _ hk (fun r e => by cases e)
  rw [am_v_ref h8] at h1
  exact h1
theorem am_ldI_s {pc' k : Nat} {q : am_S} (hs : am_ldI pc' k L st h = some q) : ∃ x, L[k]? = some (.int x) ∧ q = (pc', L, .int x :: st, h) := by
  unfold am_ldI at hs; split at hs
  · rename_i x hx; exact ⟨x, hx, (Option.some.inj hs).symm⟩
  · cases hs
theorem am_ldL_s {pc' k : Nat} {q : am_S} (hs : am_ldL pc' k L st h = some q) : ∃ x, L[k]? = some (.long x) ∧ q = (pc', L, .long x :: st, h) := by
  unfold am_ldL at hs; split at hs
  · rename_i x hx; exact ⟨x, hx, (Option.some.inj hs).symm⟩
  · cases hs
theorem am_ldA_s {pc' k : Nat} {q : am_S} (hs : am_ldA pc' k L st h = some q) : ∃ x : Nat, L[k]? = some (.ref x) ∧ x ≠ 8 ∧ q = (pc', L, .ref x :: st, h) := by
  unfold am_ldA at hs; split at hs
  · rename_i x hx
    split at hs
    · cases hs
    · rename_i h8; exact ⟨x, hx, h8, (Option.some.inj hs).symm⟩
  · cases hs
theorem am_sto_s {pc' k : Nat} {v : Value} {q : am_S} (hs : am_sto pc' k v L st h = some q) : k < L.length ∧ q = (pc', (am_cln L k).set k v, st, h) := by
  unfold am_sto at hs; split at hs
  · rename_i h1
    exact ⟨h1, (Option.some.inj hs).symm⟩
  · cases hs
theorem am_stL_s {pc' k : Nat} {v : Value} {q : am_S} (hs : am_stL pc' k v L st h = some q) : k + 1 < L.length ∧ q = (pc', ((am_cln L k).set k v).set (k + 1) (.retAddr 0), st, h) := by
  unfold am_stL at hs; split at hs
  · rename_i h1
    exact ⟨h1, (Option.some.inj hs).symm⟩
  · cases hs
theorem am_stA_s {pc' k : Nat} {q : am_S} (hs : am_stA pc' k L st h = some q) : ∃ (a : Nat) (r : List Value), st = .ref a :: r ∧ a ≠ 8 ∧ k < L.length ∧ q = (pc', (am_cln L k).set k (.ref a), r, h) := by
  unfold am_stA at hs
  replace hs := am_r1_s hs
  obtain ⟨a, r, rfl, hs⟩ := hs
  split at hs
  · cases hs
  · rename_i h8
    obtain ⟨a1, a3⟩ := am_sto_s hs
    exact ⟨a, r, rfl, h8, a1, a3⟩
theorem am_br_s {cd : Prop} [Decidable cd] {tgt : Nat} {q : am_S} (hs : am_br cd tgt pc L st h = some q) : (cd ∧ q = (tgt, L, st, h)) ∨ (¬ cd ∧ q = (pc + 3, L, st, h)) := by
  unfold am_br at hs; split at hs
  · rename_i h1; exact Or.inl ⟨h1, (Option.some.inj hs).symm⟩
  · rename_i h1; exact Or.inr ⟨h1, (Option.some.inj hs).symm⟩
/-- a branch, by its two goals -/
theorem am_two {cd : Prop} [Decidable cd] {tgt : Nat} {q : am_S} (hI : am_Inv g h H) (hl : ∀ z ∈ locs, (gH g).size ≤ z.base) (hL : am_L g ls (am_me mi).2.2.1 L) (hs : am_br cd tgt pc L st h = some q) (k : am_Kt g p l e R s m args below meth c cells slots Q mi h q) :
    (cd → W p l e R s m args below meth c H locs cells slots Q (F0 m tgt ls (st.map (am_v g)))) ∧ (¬ cd → W p l e R s m args below meth c H locs cells slots Q (F0 m (pc + 3) ls (st.map (am_v g)))) := by
  rcases am_br_s hs with ⟨h1, rfl⟩ | ⟨h1, rfl⟩
  · exact ⟨fun _ => k.same hI hl hL, fun n => absurd h1 n⟩
  · exact ⟨fun n => absurd n h1, fun _ => k.same hI hl hL⟩
end AMS
