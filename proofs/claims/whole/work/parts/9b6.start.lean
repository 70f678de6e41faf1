section
/-! THE FIRST STATE -/
def x0 : Cx := (0, 0, 0, fun _ => 0, fun _ => 0, fun _ => 0)
def l0 : Lw := (0, fun _ => 0, fun _ => 0, fun _ => 0, fun _ => 0, fun _ => (0, 0), 0)
def d0 : Dn := (0, fun _ => 0, fun _ => 0, fun _ => 0, fun _ => 0)
def r0 : Tr := (0, fun _ => 0, fun _ => 0, fun _ => false, fun _ => 0, fun _ => 0)
def t0 : Tn := (x0, fun _ => 0, fun _ => 0, l0, d0, r0, 0, 0, fun _ => 0, 0, fun _ => 0, fun _ => 0, fun _ => 0, 0, fun _ => 0, fun _ => 0)
def s0 : St := (t0, 0, 0, fun _ _ => 0, 0, fun _ => 0, 0, -1, false, t0)
theorem z_lt {P : Nat → Prop} : ∀ k, k < 0 → P k := fun k hk => absurd hk (Nat.not_lt_zero k)
theorem CI_0 (xs : Nat → Int32) : CI (mZ xs) (mZ xs) s0 := by
  have z : ∀ {i : Nat} (k : Nat), 16 ≤ i → ¬ (i = 187 ∨ i = 205 ∨ i = 213 ∨ i = 230 ∨ i = 231) → mZ xs i k = 0 := fun {i} k h1 h2 => mZ_z k h1 h2
  have cw : CW (17 + 1) (mZ xs) x0 (fun _ => 0) := ⟨z _ (by omega) (by omega), z _ (by omega) (by omega), z _ (by omega) (by omega), z _ (by omega) (by omega), z _ (by omega) (by omega), z _ (by omega) (by omega), z _ (by omega) (by omega), fun k _ => z _ (by omega) (by omega), fun k _ => z _ (by omega) (by omega), fun k _ => z _ (by omega) (by omega), fun k _ => z _ (by omega) (by omega), fun k _ => z _ (by omega) (by omega), fun k _ => z _ (by omega) (by omega), z_lt, fun k _ => z _ (by omega) (by omega), fun k _ => z _ (by omega) (by omega), fun k _ => z _ (by omega) (by omega), fun k _ => z _ (by omega) (by omega)⟩
  have ct : CT 17 (mZ xs) t0 := ⟨cw, fun k _ => z _ (by omega) (by omega), ⟨z _ (by omega) (by omega), z _ (by omega) (by omega), z_lt, z_lt, z_lt, z_lt, z_lt⟩, ⟨z _ (by omega) (by omega), z_lt, z_lt, z_lt, z_lt⟩, ⟨z _ (by omega) (by omega), z_lt, z_lt, z_lt, z_lt, z_lt⟩, z _ (by omega) (by omega), z _ (by omega) (by omega), z_lt, z _ (by omega) (by omega), z_lt, fun k _ => z _ (by omega) (by omega), z _ (by omega) (by omega), z_lt, z_lt⟩
  refine ⟨ct, z _ (by omega) (by omega), z _ (by omega) (by omega), z_lt, ?_, z_lt, ?_, ?_, z _ (by omega) (by omega), fun h => (by cases h), fun a _ => rfl⟩
  · rw [mZ_187]; rfl
  · rw [mZ_187]; rfl
  · rw [mZ_187]; rfl
theorem MI_0 (xs : Nat → Int32) : MI (mZ xs) s0 := by
  have z : ∀ {i : Nat} (k : Nat), 16 ≤ i → ¬ (i = 187 ∨ i = 205 ∨ i = 213 ∨ i = 230 ∨ i = 231) → mZ xs i k = 0 := fun {i} k h1 h2 => mZ_z k h1 h2
  have y : ∀ k : Nat, ¬ k = 36 → mZ xs 205 k = 0 := fun k h => by rw [mZ_205, if_neg h]
  have tv : MTV (mZ xs) t0 := by
    refine ⟨fun k _ => z _ (by omega) (by omega), fun k _ => z _ (by omega) (by omega), ⟨y _ (by omega), y _ (by omega), y _ (by omega), fun k _ => z _ (by omega) (by omega), fun k _ => z _ (by omega) (by omega), fun k _ => z _ (by omega) (by omega)⟩, ⟨z _ (by omega) (by omega), z_lt, z_lt, z_lt, z_lt, z_lt, z_lt⟩, ⟨y _ (by omega), z_lt, z_lt, z_lt, z_lt⟩, ⟨y _ (by omega), z_lt, z_lt, z_lt, z_lt⟩, y _ (by omega), y _ (by omega), z_lt, y _ (by omega), fun p q _ hq => ?_, fun k _ => z _ (by omega) (by omega), y _ (by omega), z_lt, z_lt⟩
    rw [z _ (by omega) (by omega)]
    show bt 0 q = false
    rcases (show q = 0 ∨ q = 1 ∨ q = 2 ∨ q = 3 ∨ q = 4 ∨ q = 5 ∨ q = 6 ∨ q = 7 by omega) with e | e | e | e | e | e | e | e <;> subst e <;> decide
  exact ⟨tv, y _ (by omega), z_lt, y _ (by omega), y _ (by omega), z_lt, y _ (by omega), by rw [mZ_205, if_pos rfl]; rfl, y _ (by omega), fun h => (by cases h), fun k hk => mZ_213 k hk, fun k hk => mZ_230 k hk, fun k hk => mZ_231 k hk⟩
theorem GT_0 : GT 0 t0 := by
  have wok : WOk x0 (9999 + 1582416 * 0) (fun _ => 0) := ⟨fun _ _ => Or.inl rfl, fun _ _ => Or.inl rfl, z_lt, fun _ _ => ⟨0, rfl, by omega⟩, fun _ _ => ⟨0, rfl, by omega⟩, ⟨0, rfl, by omega⟩⟩
  exact ⟨Nat.zero_le _, Nat.zero_le _, Nat.zero_le _, fun _ _ => Nat.zero_le _, fun _ _ _ => rfl, ⟨Nat.zero_le _, Nat.zero_le _, z_lt, z_lt, z_lt, z_lt, z_lt, z_lt⟩, ⟨Nat.zero_le _, z_lt, z_lt, z_lt, z_lt, z_lt⟩, ⟨Nat.zero_le _, z_lt, z_lt, z_lt, z_lt⟩, Nat.zero_le _, Nat.zero_le _, z_lt, Nat.zero_le _, z_lt, fun _ _ => ⟨Nat.zero_le _, fun h => absurd rfl h⟩, fun _ _ => rfl, Nat.zero_le _, z_lt, z_lt, ⟨wok, ⟨fun _ _ _ => rfl, fun _ _ _ => rfl, fun _ _ _ => rfl, fun _ _ _ => rfl, fun _ _ _ => rfl, fun _ _ _ _ _ => rfl⟩, ⟨0, rfl, by omega⟩⟩⟩
theorem GI_0 : GI 0 s0 := ⟨GT_0, Nat.zero_le _, Nat.zero_lt_succ _, z_lt, Nat.zero_le _, z_lt, fun h => (by cases h)⟩
theorem LH_0 (xs : Nat → Int32) : LH (mZ xs) := by
  refine ⟨⟨rfl, fun k _ => rfl, rfl, fun k _ => rfl⟩, fun {k} _ => ?_, fun {k} _ => ?_, fun {k} _ => ?_⟩
  · rfl
  · rfl
  · rfl
theorem am_goal : am_Goal := by
  intro L xs hL
  have w : am_Wp (27 + 4) 0 0 [.ref 0, .retAddr 0, .retAddr 0, .retAddr 0] [] (hO L xs lg_0) (fun o h => o = some (.int 1) ∧ ∃ M, h = hp L M) := by
    refine in_law (d := 27) ?_
    rw [hp_end]
    exact lw_loop (d := 0) hL (LH_0 xs) (fun M => ⟨rfl, M, rfl⟩) 512 0 (mZ xs) s0 (by omega) (by omega) (CI_0 xs) (MI_0 xs) GI_0
  obtain ⟨n, r, h', h1, rfl, M, rfl⟩ := w
  exact ⟨n, 31, hp L M, by omega, h1, by show 239 ≤ 600000; omega, by show 16207 ≤ 7302250; omega⟩
end
