/-! THE CLAIM OUT OF ONE PURE FACT about my machine -/
def am_Goal : Prop := ∀ (L : Nat) (xs : Nat → Int32), L ≤ 3072 → ∃ (n d : Nat) (h' : am_H), d ≤ 1300 ∧ am_ex n d 0 0 (am_ent 0 [.ref 0]) [] (am_h0 L xs) = some (some (.int 1), h') ∧ h'.1 ≤ 600000 ∧ h'.2.1 ≤ 7302250
theorem am_Inv_start {g : am_G} : am_Inv g (am_h0 (gN g) (gX g)) (gH g) := by
  refine ⟨⟨Nat.le_refl 16, rfl⟩, fun _ _ => rfl, fun i hi => ⟨?_, fun k => rfl, fun k => rfl⟩, fun i hi => ?_, fun i k => ?_, fun i h1 h2 => absurd h2 (Nat.not_lt.mpr h1)⟩
  · show (if i < 16 then am_roK (gN g) i else (999, 0)) = _
    rw [if_pos hi]
  · have hi' : 16 ≤ i := hi
    show (if i < 16 then am_roK (gN g) i else (999, 0)) = _
    rw [if_neg (by omega)]
  · show am_roR i k ≠ some 8
    unfold am_roR
    split
    · by_cases e : k = 1
      · rw [if_pos e]; decide
      · rw [if_neg e]; decide
    · by_cases e : k = 1
      · rw [if_pos e]; decide
      · rw [if_neg e]; decide
    · decide
set_option maxHeartbeats 4000000 in
theorem whole_open (goal : am_Goal) {p : Program} {e : Env} {s : State} {m : MethodId} {below : List Frame} {meth : Method} {c : Code} (l : Launch) {b L : Nat} {xs : Nat → Int32} (hL : L ≤ 3072) (C0 : lw_At p s m meth c b L xs) : W p l e room_1 s m #[Value.ref b] below meth c s.heap [] 0 0 (lw_Z below #[Value.ref b] s) (entryFrame m ([Value.ref b] : List Value).toArray 4) := by
  obtain ⟨hx, hb, hr, hml, hown, hts, hX, hbl, hlocks, hgv⟩ := C0
  obtain ⟨g, hC, gh, gn, gx, gr⟩ := am_Cx_start hts hX hbl hgv
  obtain ⟨n, d, h', hd1, hrun, hc, hs⟩ := goal L xs hL
  have hFx : am_Fx p s m #[Value.ref b] meth c 0 := ⟨hx, hb, hml, hown, hr, hlocks, fun z => absurd z (by decide), fun w hw => hts w (List.mem_filter.mp hw).1⟩
  have hI0 : am_Inv g (am_h0 L xs) s.heap := by rw [← gh, ← gn, ← gx]; exact am_Inv_start
  have hL0 := am_ent_L (g := g) hC.F (mi := 0) (as := [.ref 0]) rfl (by decide)
  have hvs : ([Value.ref 0] : List Value).map (am_v g) = [Value.ref b] := by
    show [am_v g (.ref 0)] = _
    rw [am_v_ref (by decide), am_ad_small (by decide), gr]
  rw [hvs] at hL0
  rw [lg_entry_eq]
  have h00 : (am_h0 L xs).1 = 16 := rfl
  have h01 : (am_h0 L xs).2.1 = 0 := rfl
  refine am_sound g l n d 0 0 (am_ent 0 [.ref 0]) [] (am_h0 L xs) _ h' hrun p e room_1 s m _ below meth c s.heap [] 0 0 _ _ hFx hC (by show d ≤ 2048; omega) (by show 64 * d ≤ 84000; omega) (by rw [h00]; show 0 + _ ≤ 600000; omega) (by rw [h01]; show 0 + _ ≤ 7302250; omega) hI0 (fun z hz => by cases hz) hL0 ?_
  intro H' locs' pc' ls' hI' hl' hend
  rcases hend with ⟨q, -⟩ | ⟨v, t, q, hd, -⟩
  · cases q
  · cases q
    refine va_forget (fun q hq => by have := hl' q hq; rw [gh] at this; exact this) ?_
    refine W.widen (k := 600000) (n := 7302250) (by rw [h00]; omega) (by rw [h01]; omega) ?_
    exact lw_ret hx hb hr hlocks hd
