section
/-! TEXT 3: what may begin its line; a lark of a good -/
theorem cB_3 {k : Nat} (hk : k ≤ 38) : cB 3 k ↔ k = 24 := by
  unfold cB
  rw [li, li, li, li, li, eq_n (b := 24) (by omega) (by omega)]
  exact ⟨fun z => z.elim (fun z => z.2.elim (fun z => absurd rfl z.1) (fun z => Decidable.not_not.mp z.2)) (fun z => absurd (by decide) z.1), fun z => Or.inl ⟨by decide, Or.inr ⟨fun y => y rfl, fun y => y z⟩⟩⟩
theorem upB_s (gd lk : Nat → Nat) (m g : Nat) : upB gd lk (m + 1) g = if gd m = g then lk m + 1 else upB gd lk m g := rfl
theorem upB_le {gd lk : Nat → Nat} {L : Nat} : ∀ m g, (∀ i, i < m → lk i < L) → upB gd lk m g ≤ L
  | 0, _, _ => Nat.zero_le _
  | m + 1, g, h => by
    rw [upB_s]
    by_cases c : gd m = g
    · rw [if_pos c]; have := h m (by omega); omega
    · rw [if_neg c]; exact upB_le m g (fun i hi => h i (by omega))
theorem upB_0 {gd lk : Nat → Nat} {G : Nat} : ∀ m g, (∀ i, i < m → gd i < G) → G ≤ g → upB gd lk m g = 0
  | 0, _, _, _ => rfl
  | m + 1, g, h, hg => by
    rw [upB_s, if_neg (by have := h m (by omega); omega)]
    exact upB_0 m g (fun i hi => h i (by omega)) hg
end
