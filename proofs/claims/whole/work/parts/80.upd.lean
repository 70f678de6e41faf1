section
theorem CW_he {w : Nat} {M : am_M} {x : Cx} {W : Nat → Int32} (h : CW w M x W) {k : Nat} (hk : k < 6) (v : Int32) : CW w (am_up M (w + 2) k v) x (upd W (4 + k) v) := by
  have e : ∀ a, a ≠ w + 2 → am_up M (w + 2) k v a = M a := fun a ha => up_ne _ _ _ ha
  have u : ∀ j, j ≠ 4 + k → upd W (4 + k) v j = W j := fun j hj => upd_ne _ _ hj
  exact ⟨by rw [e w (by omega)]; exact h.fL,
    by rw [e w (by omega)]; exact h.fG,
    by rw [e w (by omega)]; exact h.fT,
    by rw [e w (by omega), u _ (by omega)]; exact h.wi,
    by rw [e w (by omega), u _ (by omega)]; exact h.da,
    by rw [e w (by omega), u _ (by omega)]; exact h.dr,
    by rw [e w (by omega), u _ (by omega)]; exact h.wr,
    by rw [e (w + 1) (by omega)]; exact h.vo,
    fun j hj => by
      rw [up_same, upd_at, upd_at]
      by_cases c : j = k
      · rw [if_pos c, if_pos (by omega)]
      · rw [if_neg c, if_neg (by omega)]; exact h.he j hj,
    fun j hj => by rw [e (w + 3) (by omega), u _ (by omega)]; exact h.tp j hj,
    fun j hj => by rw [e (w + 4) (by omega), u _ (by omega)]; exact h.lo j hj,
    fun j hj => by rw [e (w + 5) (by omega), u _ (by omega)]; exact h.sc j hj,
    by rw [e (w + 6) (by omega)]; exact h.ba,
    by rw [e (w + 7) (by omega)]; exact h.bb,
    fun j hj => by rw [e (w + 8) (by omega), u _ (by omega)]; exact h.pr j hj,
    fun j hj => by rw [e (w + 9) (by omega), u _ (by omega)]; exact h.pu j hj,
    fun j hj => by rw [e (w + 10) (by omega), u _ (by omega)]; exact h.ru j hj,
    fun j hj => by rw [e (w + 11) (by omega), u _ (by omega)]; exact h.st j hj⟩
theorem CW_tp {w : Nat} {M : am_M} {x : Cx} {W : Nat → Int32} (h : CW w M x W) {k : Nat} (hk : k < 6) (v : Int32) : CW w (am_up M (w + 3) k v) x (upd W (10 + k) v) := by
  have e : ∀ a, a ≠ w + 3 → am_up M (w + 3) k v a = M a := fun a ha => up_ne _ _ _ ha
  have u : ∀ j, j ≠ 10 + k → upd W (10 + k) v j = W j := fun j hj => upd_ne _ _ hj
  exact ⟨by rw [e w (by omega)]; exact h.fL,
    by rw [e w (by omega)]; exact h.fG,
    by rw [e w (by omega)]; exact h.fT,
    by rw [e w (by omega), u _ (by omega)]; exact h.wi,
    by rw [e w (by omega), u _ (by omega)]; exact h.da,
    by rw [e w (by omega), u _ (by omega)]; exact h.dr,
    by rw [e w (by omega), u _ (by omega)]; exact h.wr,
    by rw [e (w + 1) (by omega)]; exact h.vo,
    fun j hj => by rw [e (w + 2) (by omega), u _ (by omega)]; exact h.he j hj,
    fun j hj => by
      rw [up_same, upd_at, upd_at]
      by_cases c : j = k
      · rw [if_pos c, if_pos (by omega)]
      · rw [if_neg c, if_neg (by omega)]; exact h.tp j hj,
    fun j hj => by rw [e (w + 4) (by omega), u _ (by omega)]; exact h.lo j hj,
    fun j hj => by rw [e (w + 5) (by omega), u _ (by omega)]; exact h.sc j hj,
    by rw [e (w + 6) (by omega)]; exact h.ba,
    by rw [e (w + 7) (by omega)]; exact h.bb,
    fun j hj => by rw [e (w + 8) (by omega), u _ (by omega)]; exact h.pr j hj,
    fun j hj => by rw [e (w + 9) (by omega), u _ (by omega)]; exact h.pu j hj,
    fun j hj => by rw [e (w + 10) (by omega), u _ (by omega)]; exact h.ru j hj,
    fun j hj => by rw [e (w + 11) (by omega), u _ (by omega)]; exact h.st j hj⟩
theorem CW_lo {w : Nat} {M : am_M} {x : Cx} {W : Nat → Int32} (h : CW w M x W) {k : Nat} (hk : k < 6) (v : Int32) : CW w (am_up M (w + 4) k v) x (upd W (16 + k) v) := by
  have e : ∀ a, a ≠ w + 4 → am_up M (w + 4) k v a = M a := fun a ha => up_ne _ _ _ ha
  have u : ∀ j, j ≠ 16 + k → upd W (16 + k) v j = W j := fun j hj => upd_ne _ _ hj
  exact ⟨by rw [e w (by omega)]; exact h.fL,
    by rw [e w (by omega)]; exact h.fG,
    by rw [e w (by omega)]; exact h.fT,
    by rw [e w (by omega), u _ (by omega)]; exact h.wi,
    by rw [e w (by omega), u _ (by omega)]; exact h.da,
    by rw [e w (by omega), u _ (by omega)]; exact h.dr,
    by rw [e w (by omega), u _ (by omega)]; exact h.wr,
    by rw [e (w + 1) (by omega)]; exact h.vo,
    fun j hj => by rw [e (w + 2) (by omega), u _ (by omega)]; exact h.he j hj,
    fun j hj => by rw [e (w + 3) (by omega), u _ (by omega)]; exact h.tp j hj,
    fun j hj => by
      rw [up_same, upd_at, upd_at]
      by_cases c : j = k
      · rw [if_pos c, if_pos (by omega)]
      · rw [if_neg c, if_neg (by omega)]; exact h.lo j hj,
    fun j hj => by rw [e (w + 5) (by omega), u _ (by omega)]; exact h.sc j hj,
    by rw [e (w + 6) (by omega)]; exact h.ba,
    by rw [e (w + 7) (by omega)]; exact h.bb,
    fun j hj => by rw [e (w + 8) (by omega), u _ (by omega)]; exact h.pr j hj,
    fun j hj => by rw [e (w + 9) (by omega), u _ (by omega)]; exact h.pu j hj,
    fun j hj => by rw [e (w + 10) (by omega), u _ (by omega)]; exact h.ru j hj,
    fun j hj => by rw [e (w + 11) (by omega), u _ (by omega)]; exact h.st j hj⟩
theorem CW_sc {w : Nat} {M : am_M} {x : Cx} {W : Nat → Int32} (h : CW w M x W) {k : Nat} (hk : k < 6) (v : Int32) : CW w (am_up M (w + 5) k v) x (upd W (22 + k) v) := by
  have e : ∀ a, a ≠ w + 5 → am_up M (w + 5) k v a = M a := fun a ha => up_ne _ _ _ ha
  have u : ∀ j, j ≠ 22 + k → upd W (22 + k) v j = W j := fun j hj => upd_ne _ _ hj
  exact ⟨by rw [e w (by omega)]; exact h.fL,
    by rw [e w (by omega)]; exact h.fG,
    by rw [e w (by omega)]; exact h.fT,
    by rw [e w (by omega), u _ (by omega)]; exact h.wi,
    by rw [e w (by omega), u _ (by omega)]; exact h.da,
    by rw [e w (by omega), u _ (by omega)]; exact h.dr,
    by rw [e w (by omega), u _ (by omega)]; exact h.wr,
    by rw [e (w + 1) (by omega)]; exact h.vo,
    fun j hj => by rw [e (w + 2) (by omega), u _ (by omega)]; exact h.he j hj,
    fun j hj => by rw [e (w + 3) (by omega), u _ (by omega)]; exact h.tp j hj,
    fun j hj => by rw [e (w + 4) (by omega), u _ (by omega)]; exact h.lo j hj,
    fun j hj => by
      rw [up_same, upd_at, upd_at]
      by_cases c : j = k
      · rw [if_pos c, if_pos (by omega)]
      · rw [if_neg c, if_neg (by omega)]; exact h.sc j hj,
    by rw [e (w + 6) (by omega)]; exact h.ba,
    by rw [e (w + 7) (by omega)]; exact h.bb,
    fun j hj => by rw [e (w + 8) (by omega), u _ (by omega)]; exact h.pr j hj,
    fun j hj => by rw [e (w + 9) (by omega), u _ (by omega)]; exact h.pu j hj,
    fun j hj => by rw [e (w + 10) (by omega), u _ (by omega)]; exact h.ru j hj,
    fun j hj => by rw [e (w + 11) (by omega), u _ (by omega)]; exact h.st j hj⟩
theorem CW_pr {w : Nat} {M : am_M} {x : Cx} {W : Nat → Int32} (h : CW w M x W) {k : Nat} (hk : k < 8) (v : Int32) : CW w (am_up M (w + 8) k v) x (upd W (28 + k) v) := by
  have e : ∀ a, a ≠ w + 8 → am_up M (w + 8) k v a = M a := fun a ha => up_ne _ _ _ ha
  have u : ∀ j, j ≠ 28 + k → upd W (28 + k) v j = W j := fun j hj => upd_ne _ _ hj
  exact ⟨by rw [e w (by omega)]; exact h.fL,
    by rw [e w (by omega)]; exact h.fG,
    by rw [e w (by omega)]; exact h.fT,
    by rw [e w (by omega), u _ (by omega)]; exact h.wi,
    by rw [e w (by omega), u _ (by omega)]; exact h.da,
    by rw [e w (by omega), u _ (by omega)]; exact h.dr,
    by rw [e w (by omega), u _ (by omega)]; exact h.wr,
    by rw [e (w + 1) (by omega)]; exact h.vo,
    fun j hj => by rw [e (w + 2) (by omega), u _ (by omega)]; exact h.he j hj,
    fun j hj => by rw [e (w + 3) (by omega), u _ (by omega)]; exact h.tp j hj,
    fun j hj => by rw [e (w + 4) (by omega), u _ (by omega)]; exact h.lo j hj,
    fun j hj => by rw [e (w + 5) (by omega), u _ (by omega)]; exact h.sc j hj,
    by rw [e (w + 6) (by omega)]; exact h.ba,
    by rw [e (w + 7) (by omega)]; exact h.bb,
    fun j hj => by
      rw [up_same, upd_at, upd_at]
      by_cases c : j = k
      · rw [if_pos c, if_pos (by omega)]
      · rw [if_neg c, if_neg (by omega)]; exact h.pr j hj,
    fun j hj => by rw [e (w + 9) (by omega), u _ (by omega)]; exact h.pu j hj,
    fun j hj => by rw [e (w + 10) (by omega), u _ (by omega)]; exact h.ru j hj,
    fun j hj => by rw [e (w + 11) (by omega), u _ (by omega)]; exact h.st j hj⟩
theorem CW_pu {w : Nat} {M : am_M} {x : Cx} {W : Nat → Int32} (h : CW w M x W) {k : Nat} (hk : k < 10) (v : Int32) : CW w (am_up M (w + 9) k v) x (upd W (36 + k) v) := by
  have e : ∀ a, a ≠ w + 9 → am_up M (w + 9) k v a = M a := fun a ha => up_ne _ _ _ ha
  have u : ∀ j, j ≠ 36 + k → upd W (36 + k) v j = W j := fun j hj => upd_ne _ _ hj
  exact ⟨by rw [e w (by omega)]; exact h.fL,
    by rw [e w (by omega)]; exact h.fG,
    by rw [e w (by omega)]; exact h.fT,
    by rw [e w (by omega), u _ (by omega)]; exact h.wi,
    by rw [e w (by omega), u _ (by omega)]; exact h.da,
    by rw [e w (by omega), u _ (by omega)]; exact h.dr,
    by rw [e w (by omega), u _ (by omega)]; exact h.wr,
    by rw [e (w + 1) (by omega)]; exact h.vo,
    fun j hj => by rw [e (w + 2) (by omega), u _ (by omega)]; exact h.he j hj,
    fun j hj => by rw [e (w + 3) (by omega), u _ (by omega)]; exact h.tp j hj,
    fun j hj => by rw [e (w + 4) (by omega), u _ (by omega)]; exact h.lo j hj,
    fun j hj => by rw [e (w + 5) (by omega), u _ (by omega)]; exact h.sc j hj,
    by rw [e (w + 6) (by omega)]; exact h.ba,
    by rw [e (w + 7) (by omega)]; exact h.bb,
    fun j hj => by rw [e (w + 8) (by omega), u _ (by omega)]; exact h.pr j hj,
    fun j hj => by
      rw [up_same, upd_at, upd_at]
      by_cases c : j = k
      · rw [if_pos c, if_pos (by omega)]
      · rw [if_neg c, if_neg (by omega)]; exact h.pu j hj,
    fun j hj => by rw [e (w + 10) (by omega), u _ (by omega)]; exact h.ru j hj,
    fun j hj => by rw [e (w + 11) (by omega), u _ (by omega)]; exact h.st j hj⟩
theorem CW_ru {w : Nat} {M : am_M} {x : Cx} {W : Nat → Int32} (h : CW w M x W) {k : Nat} (hk : k < 10) (v : Int32) : CW w (am_up M (w + 10) k v) x (upd W (46 + k) v) := by
  have e : ∀ a, a ≠ w + 10 → am_up M (w + 10) k v a = M a := fun a ha => up_ne _ _ _ ha
  have u : ∀ j, j ≠ 46 + k → upd W (46 + k) v j = W j := fun j hj => upd_ne _ _ hj
  exact ⟨by rw [e w (by omega)]; exact h.fL,
    by rw [e w (by omega)]; exact h.fG,
    by rw [e w (by omega)]; exact h.fT,
    by rw [e w (by omega), u _ (by omega)]; exact h.wi,
    by rw [e w (by omega), u _ (by omega)]; exact h.da,
    by rw [e w (by omega), u _ (by omega)]; exact h.dr,
    by rw [e w (by omega), u _ (by omega)]; exact h.wr,
    by rw [e (w + 1) (by omega)]; exact h.vo,
    fun j hj => by rw [e (w + 2) (by omega), u _ (by omega)]; exact h.he j hj,
    fun j hj => by rw [e (w + 3) (by omega), u _ (by omega)]; exact h.tp j hj,
    fun j hj => by rw [e (w + 4) (by omega), u _ (by omega)]; exact h.lo j hj,
    fun j hj => by rw [e (w + 5) (by omega), u _ (by omega)]; exact h.sc j hj,
    by rw [e (w + 6) (by omega)]; exact h.ba,
    by rw [e (w + 7) (by omega)]; exact h.bb,
    fun j hj => by rw [e (w + 8) (by omega), u _ (by omega)]; exact h.pr j hj,
    fun j hj => by rw [e (w + 9) (by omega), u _ (by omega)]; exact h.pu j hj,
    fun j hj => by
      rw [up_same, upd_at, upd_at]
      by_cases c : j = k
      · rw [if_pos c, if_pos (by omega)]
      · rw [if_neg c, if_neg (by omega)]; exact h.ru j hj,
    fun j hj => by rw [e (w + 11) (by omega), u _ (by omega)]; exact h.st j hj⟩
theorem CW_st {w : Nat} {M : am_M} {x : Cx} {W : Nat → Int32} (h : CW w M x W) {k : Nat} (hk : k < 80) (v : Int32) : CW w (am_up M (w + 11) k v) x (upd W (56 + k) v) := by
  have e : ∀ a, a ≠ w + 11 → am_up M (w + 11) k v a = M a := fun a ha => up_ne _ _ _ ha
  have u : ∀ j, j ≠ 56 + k → upd W (56 + k) v j = W j := fun j hj => upd_ne _ _ hj
  exact ⟨by rw [e w (by omega)]; exact h.fL,
    by rw [e w (by omega)]; exact h.fG,
    by rw [e w (by omega)]; exact h.fT,
    by rw [e w (by omega), u _ (by omega)]; exact h.wi,
    by rw [e w (by omega), u _ (by omega)]; exact h.da,
    by rw [e w (by omega), u _ (by omega)]; exact h.dr,
    by rw [e w (by omega), u _ (by omega)]; exact h.wr,
    by rw [e (w + 1) (by omega)]; exact h.vo,
    fun j hj => by rw [e (w + 2) (by omega), u _ (by omega)]; exact h.he j hj,
    fun j hj => by rw [e (w + 3) (by omega), u _ (by omega)]; exact h.tp j hj,
    fun j hj => by rw [e (w + 4) (by omega), u _ (by omega)]; exact h.lo j hj,
    fun j hj => by rw [e (w + 5) (by omega), u _ (by omega)]; exact h.sc j hj,
    by rw [e (w + 6) (by omega)]; exact h.ba,
    by rw [e (w + 7) (by omega)]; exact h.bb,
    fun j hj => by rw [e (w + 8) (by omega), u _ (by omega)]; exact h.pr j hj,
    fun j hj => by rw [e (w + 9) (by omega), u _ (by omega)]; exact h.pu j hj,
    fun j hj => by rw [e (w + 10) (by omega), u _ (by omega)]; exact h.ru j hj,
    fun j hj => by
      rw [up_same, upd_at, upd_at]
      by_cases c : j = k
      · rw [if_pos c, if_pos (by omega)]
      · rw [if_neg c, if_neg (by omega)]; exact h.st j hj⟩
theorem CW_wi {w : Nat} {M : am_M} {x : Cx} {W : Nat → Int32} (h : CW w M x W) (v : Int32) : CW w (am_up M w 3 v) x (upd W 3 v) := by
  have e : ∀ a, a ≠ w → am_up M w 3 v a = M a := fun a ha => up_ne _ _ _ ha
  have s : ∀ j, j ≠ 3 → am_up M w 3 v w j = M w j := fun j hj => by rw [up_same, upd_ne _ _ hj]
  have u : ∀ j, j ≠ 3 → upd W 3 v j = W j := fun j hj => upd_ne _ _ hj
  exact ⟨by rw [s _ (by omega)]; exact h.fL,
    by rw [s _ (by omega)]; exact h.fG,
    by rw [s _ (by omega)]; exact h.fT,
    by rw [up_same, upd_same, upd_same],
    by rw [s _ (by omega), u _ (by omega)]; exact h.da,
    by rw [s _ (by omega), u _ (by omega)]; exact h.dr,
    by rw [s _ (by omega), u _ (by omega)]; exact h.wr,
    by rw [e (w + 1) (by omega)]; exact h.vo,
    fun j hj => by rw [e (w + 2) (by omega), u _ (by omega)]; exact h.he j hj,
    fun j hj => by rw [e (w + 3) (by omega), u _ (by omega)]; exact h.tp j hj,
    fun j hj => by rw [e (w + 4) (by omega), u _ (by omega)]; exact h.lo j hj,
    fun j hj => by rw [e (w + 5) (by omega), u _ (by omega)]; exact h.sc j hj,
    by rw [e (w + 6) (by omega)]; exact h.ba,
    by rw [e (w + 7) (by omega)]; exact h.bb,
    fun j hj => by rw [e (w + 8) (by omega), u _ (by omega)]; exact h.pr j hj,
    fun j hj => by rw [e (w + 9) (by omega), u _ (by omega)]; exact h.pu j hj,
    fun j hj => by rw [e (w + 10) (by omega), u _ (by omega)]; exact h.ru j hj,
    fun j hj => by rw [e (w + 11) (by omega), u _ (by omega)]; exact h.st j hj⟩
theorem CW_da {w : Nat} {M : am_M} {x : Cx} {W : Nat → Int32} (h : CW w M x W) (v : Int32) : CW w (am_up M w 4 v) x (upd W 0 v) := by
  have e : ∀ a, a ≠ w → am_up M w 4 v a = M a := fun a ha => up_ne _ _ _ ha
  have s : ∀ j, j ≠ 4 → am_up M w 4 v w j = M w j := fun j hj => by rw [up_same, upd_ne _ _ hj]
  have u : ∀ j, j ≠ 0 → upd W 0 v j = W j := fun j hj => upd_ne _ _ hj
  exact ⟨by rw [s _ (by omega)]; exact h.fL,
    by rw [s _ (by omega)]; exact h.fG,
    by rw [s _ (by omega)]; exact h.fT,
    by rw [s _ (by omega), u _ (by omega)]; exact h.wi,
    by rw [up_same, upd_same, upd_same],
    by rw [s _ (by omega), u _ (by omega)]; exact h.dr,
    by rw [s _ (by omega), u _ (by omega)]; exact h.wr,
    by rw [e (w + 1) (by omega)]; exact h.vo,
    fun j hj => by rw [e (w + 2) (by omega), u _ (by omega)]; exact h.he j hj,
    fun j hj => by rw [e (w + 3) (by omega), u _ (by omega)]; exact h.tp j hj,
    fun j hj => by rw [e (w + 4) (by omega), u _ (by omega)]; exact h.lo j hj,
    fun j hj => by rw [e (w + 5) (by omega), u _ (by omega)]; exact h.sc j hj,
    by rw [e (w + 6) (by omega)]; exact h.ba,
    by rw [e (w + 7) (by omega)]; exact h.bb,
    fun j hj => by rw [e (w + 8) (by omega), u _ (by omega)]; exact h.pr j hj,
    fun j hj => by rw [e (w + 9) (by omega), u _ (by omega)]; exact h.pu j hj,
    fun j hj => by rw [e (w + 10) (by omega), u _ (by omega)]; exact h.ru j hj,
    fun j hj => by rw [e (w + 11) (by omega), u _ (by omega)]; exact h.st j hj⟩
theorem CW_dr {w : Nat} {M : am_M} {x : Cx} {W : Nat → Int32} (h : CW w M x W) (v : Int32) : CW w (am_up M w 5 v) x (upd W 1 v) := by
  have e : ∀ a, a ≠ w → am_up M w 5 v a = M a := fun a ha => up_ne _ _ _ ha
  have s : ∀ j, j ≠ 5 → am_up M w 5 v w j = M w j := fun j hj => by rw [up_same, upd_ne _ _ hj]
  have u : ∀ j, j ≠ 1 → upd W 1 v j = W j := fun j hj => upd_ne _ _ hj
  exact ⟨by rw [s _ (by omega)]; exact h.fL,
    by rw [s _ (by omega)]; exact h.fG,
    by rw [s _ (by omega)]; exact h.fT,
    by rw [s _ (by omega), u _ (by omega)]; exact h.wi,
    by rw [s _ (by omega), u _ (by omega)]; exact h.da,
    by rw [up_same, upd_same, upd_same],
    by rw [s _ (by omega), u _ (by omega)]; exact h.wr,
    by rw [e (w + 1) (by omega)]; exact h.vo,
    fun j hj => by rw [e (w + 2) (by omega), u _ (by omega)]; exact h.he j hj,
    fun j hj => by rw [e (w + 3) (by omega), u _ (by omega)]; exact h.tp j hj,
    fun j hj => by rw [e (w + 4) (by omega), u _ (by omega)]; exact h.lo j hj,
    fun j hj => by rw [e (w + 5) (by omega), u _ (by omega)]; exact h.sc j hj,
    by rw [e (w + 6) (by omega)]; exact h.ba,
    by rw [e (w + 7) (by omega)]; exact h.bb,
    fun j hj => by rw [e (w + 8) (by omega), u _ (by omega)]; exact h.pr j hj,
    fun j hj => by rw [e (w + 9) (by omega), u _ (by omega)]; exact h.pu j hj,
    fun j hj => by rw [e (w + 10) (by omega), u _ (by omega)]; exact h.ru j hj,
    fun j hj => by rw [e (w + 11) (by omega), u _ (by omega)]; exact h.st j hj⟩
theorem CW_wr {w : Nat} {M : am_M} {x : Cx} {W : Nat → Int32} (h : CW w M x W) (v : Int32) : CW w (am_up M w 6 v) x (upd W 2 v) := by
  have e : ∀ a, a ≠ w → am_up M w 6 v a = M a := fun a ha => up_ne _ _ _ ha
  have s : ∀ j, j ≠ 6 → am_up M w 6 v w j = M w j := fun j hj => by rw [up_same, upd_ne _ _ hj]
  have u : ∀ j, j ≠ 2 → upd W 2 v j = W j := fun j hj => upd_ne _ _ hj
  exact ⟨by rw [s _ (by omega)]; exact h.fL,
    by rw [s _ (by omega)]; exact h.fG,
    by rw [s _ (by omega)]; exact h.fT,
    by rw [s _ (by omega), u _ (by omega)]; exact h.wi,
    by rw [s _ (by omega), u _ (by omega)]; exact h.da,
    by rw [s _ (by omega), u _ (by omega)]; exact h.dr,
    by rw [up_same, upd_same, upd_same],
    by rw [e (w + 1) (by omega)]; exact h.vo,
    fun j hj => by rw [e (w + 2) (by omega), u _ (by omega)]; exact h.he j hj,
    fun j hj => by rw [e (w + 3) (by omega), u _ (by omega)]; exact h.tp j hj,
    fun j hj => by rw [e (w + 4) (by omega), u _ (by omega)]; exact h.lo j hj,
    fun j hj => by rw [e (w + 5) (by omega), u _ (by omega)]; exact h.sc j hj,
    by rw [e (w + 6) (by omega)]; exact h.ba,
    by rw [e (w + 7) (by omega)]; exact h.bb,
    fun j hj => by rw [e (w + 8) (by omega), u _ (by omega)]; exact h.pr j hj,
    fun j hj => by rw [e (w + 9) (by omega), u _ (by omega)]; exact h.pu j hj,
    fun j hj => by rw [e (w + 10) (by omega), u _ (by omega)]; exact h.ru j hj,
    fun j hj => by rw [e (w + 11) (by omega), u _ (by omega)]; exact h.st j hj⟩
/-- which rows a day of the class may change -/
def chg (w a : Nat) : Prop := a = w ∨ (w + 2 ≤ a ∧ a ≤ w + 5) ∨ (w + 8 ≤ a ∧ a ≤ w + 11) ∨ a = 30 ∨ a = 37 ∨ a = 38
abbrev KC (w : Nat) (M0 M : am_M) (x : Cx) (W B : Nat → Int32) : Prop := (CW w M x W) ∧ (∀ k, k < 600 → M 30 k = B k) ∧ (∀ a, ¬ chg w a → M a = M0 a)
theorem KC.cw {w : Nat} {M0 M : am_M} {x : Cx} {W B : Nat → Int32} (zz : KC w M0 M x W B) : CW w M x W := zz.1
theorem KC.bk {w : Nat} {M0 M : am_M} {x : Cx} {W B : Nat → Int32} (zz : KC w M0 M x W B) : ∀ k, k < 600 → M 30 k = B k := zz.2.1
theorem KC.fr {w : Nat} {M0 M : am_M} {x : Cx} {W B : Nat → Int32} (zz : KC w M0 M x W B) : ∀ a, ¬ chg w a → M a = M0 a := zz.2.2
def okw (w : Nat) : Prop := w = 18 ∨ w = 101
theorem KC_row {w : Nat} {M0 M : am_M} {x : Cx} {W B : Nat → Int32} (h : KC w M0 M x W B) (hw : okw w) {a : Nat} (ha : a = 37 ∨ a = 38) (r : Nat → Int32) : KC w M0 (am_row M a r) x W B := by
  unfold okw at hw
  refine ⟨CW_row h.cw r (by omega), ?_, fun b hb => ?_⟩
  · rw [row_ne _ _ (by omega)]; exact h.bk
  · rw [row_ne _ _ (fun z => hb (by unfold chg; omega))]; exact h.fr b hb
theorem KC_bk {w : Nat} {M0 M : am_M} {x : Cx} {W B : Nat → Int32} (h : KC w M0 M x W B) (hw : okw w) (k : Nat) (v : Int32) : KC w M0 (am_up M 30 k v) x W (upd B k v) := by
  unfold okw at hw
  refine ⟨CW_of h.cw (fun a h1 h2 => up_ne _ _ _ (by omega)), fun j hj => ?_, fun b hb => ?_⟩
  · rw [up_same, upd_at, upd_at]
    by_cases c : j = k
    · rw [if_pos c, if_pos c]
    · rw [if_neg c, if_neg c]; exact h.bk j hj
  · rw [up_ne _ _ _ (fun z => hb (by unfold chg; omega))]; exact h.fr b hb
theorem KC_he {w : Nat} {M0 M : am_M} {x : Cx} {W B : Nat → Int32} (h : KC w M0 M x W B) (hw : okw w) {k : Nat} (hk : k < 6) (v : Int32) : KC w M0 (am_up M (w + 2) k v) x (upd W (4 + k) v) B := by
  unfold okw at hw
  refine ⟨CW_he h.cw hk v, ?_, fun b hb => ?_⟩
  · rw [up_ne _ _ _ (by omega)]; exact h.bk
  · rw [up_ne _ _ _ (fun z => hb (by unfold chg; omega))]; exact h.fr b hb
theorem KC_tp {w : Nat} {M0 M : am_M} {x : Cx} {W B : Nat → Int32} (h : KC w M0 M x W B) (hw : okw w) {k : Nat} (hk : k < 6) (v : Int32) : KC w M0 (am_up M (w + 3) k v) x (upd W (10 + k) v) B := by
  unfold okw at hw
  refine ⟨CW_tp h.cw hk v, ?_, fun b hb => ?_⟩
  · rw [up_ne _ _ _ (by omega)]; exact h.bk
  · rw [up_ne _ _ _ (fun z => hb (by unfold chg; omega))]; exact h.fr b hb
theorem KC_lo {w : Nat} {M0 M : am_M} {x : Cx} {W B : Nat → Int32} (h : KC w M0 M x W B) (hw : okw w) {k : Nat} (hk : k < 6) (v : Int32) : KC w M0 (am_up M (w + 4) k v) x (upd W (16 + k) v) B := by
  unfold okw at hw
  refine ⟨CW_lo h.cw hk v, ?_, fun b hb => ?_⟩
  · rw [up_ne _ _ _ (by omega)]; exact h.bk
  · rw [up_ne _ _ _ (fun z => hb (by unfold chg; omega))]; exact h.fr b hb
theorem KC_sc {w : Nat} {M0 M : am_M} {x : Cx} {W B : Nat → Int32} (h : KC w M0 M x W B) (hw : okw w) {k : Nat} (hk : k < 6) (v : Int32) : KC w M0 (am_up M (w + 5) k v) x (upd W (22 + k) v) B := by
  unfold okw at hw
  refine ⟨CW_sc h.cw hk v, ?_, fun b hb => ?_⟩
  · rw [up_ne _ _ _ (by omega)]; exact h.bk
  · rw [up_ne _ _ _ (fun z => hb (by unfold chg; omega))]; exact h.fr b hb
theorem KC_pr {w : Nat} {M0 M : am_M} {x : Cx} {W B : Nat → Int32} (h : KC w M0 M x W B) (hw : okw w) {k : Nat} (hk : k < 8) (v : Int32) : KC w M0 (am_up M (w + 8) k v) x (upd W (28 + k) v) B := by
  unfold okw at hw
  refine ⟨CW_pr h.cw hk v, ?_, fun b hb => ?_⟩
  · rw [up_ne _ _ _ (by omega)]; exact h.bk
  · rw [up_ne _ _ _ (fun z => hb (by unfold chg; omega))]; exact h.fr b hb
theorem KC_pu {w : Nat} {M0 M : am_M} {x : Cx} {W B : Nat → Int32} (h : KC w M0 M x W B) (hw : okw w) {k : Nat} (hk : k < 10) (v : Int32) : KC w M0 (am_up M (w + 9) k v) x (upd W (36 + k) v) B := by
  unfold okw at hw
  refine ⟨CW_pu h.cw hk v, ?_, fun b hb => ?_⟩
  · rw [up_ne _ _ _ (by omega)]; exact h.bk
  · rw [up_ne _ _ _ (fun z => hb (by unfold chg; omega))]; exact h.fr b hb
theorem KC_ru {w : Nat} {M0 M : am_M} {x : Cx} {W B : Nat → Int32} (h : KC w M0 M x W B) (hw : okw w) {k : Nat} (hk : k < 10) (v : Int32) : KC w M0 (am_up M (w + 10) k v) x (upd W (46 + k) v) B := by
  unfold okw at hw
  refine ⟨CW_ru h.cw hk v, ?_, fun b hb => ?_⟩
  · rw [up_ne _ _ _ (by omega)]; exact h.bk
  · rw [up_ne _ _ _ (fun z => hb (by unfold chg; omega))]; exact h.fr b hb
theorem KC_st {w : Nat} {M0 M : am_M} {x : Cx} {W B : Nat → Int32} (h : KC w M0 M x W B) (hw : okw w) {k : Nat} (hk : k < 80) (v : Int32) : KC w M0 (am_up M (w + 11) k v) x (upd W (56 + k) v) B := by
  unfold okw at hw
  refine ⟨CW_st h.cw hk v, ?_, fun b hb => ?_⟩
  · rw [up_ne _ _ _ (by omega)]; exact h.bk
  · rw [up_ne _ _ _ (fun z => hb (by unfold chg; omega))]; exact h.fr b hb
theorem KC_wi {w : Nat} {M0 M : am_M} {x : Cx} {W B : Nat → Int32} (h : KC w M0 M x W B) (hw : okw w) (v : Int32) : KC w M0 (am_up M w 3 v) x (upd W 3 v) B := by
  unfold okw at hw
  refine ⟨CW_wi h.cw v, ?_, fun b hb => ?_⟩
  · rw [up_ne _ _ _ (by omega)]; exact h.bk
  · rw [up_ne _ _ _ (fun z => hb (by unfold chg; omega))]; exact h.fr b hb
theorem KC_da {w : Nat} {M0 M : am_M} {x : Cx} {W B : Nat → Int32} (h : KC w M0 M x W B) (hw : okw w) (v : Int32) : KC w M0 (am_up M w 4 v) x (upd W 0 v) B := by
  unfold okw at hw
  refine ⟨CW_da h.cw v, ?_, fun b hb => ?_⟩
  · rw [up_ne _ _ _ (by omega)]; exact h.bk
  · rw [up_ne _ _ _ (fun z => hb (by unfold chg; omega))]; exact h.fr b hb
theorem KC_dr {w : Nat} {M0 M : am_M} {x : Cx} {W B : Nat → Int32} (h : KC w M0 M x W B) (hw : okw w) (v : Int32) : KC w M0 (am_up M w 5 v) x (upd W 1 v) B := by
  unfold okw at hw
  refine ⟨CW_dr h.cw v, ?_, fun b hb => ?_⟩
  · rw [up_ne _ _ _ (by omega)]; exact h.bk
  · rw [up_ne _ _ _ (fun z => hb (by unfold chg; omega))]; exact h.fr b hb
theorem KC_wr {w : Nat} {M0 M : am_M} {x : Cx} {W B : Nat → Int32} (h : KC w M0 M x W B) (hw : okw w) (v : Int32) : KC w M0 (am_up M w 6 v) x (upd W 2 v) B := by
  unfold okw at hw
  refine ⟨CW_wr h.cw v, ?_, fun b hb => ?_⟩
  · rw [up_ne _ _ _ (by omega)]; exact h.bk
  · rw [up_ne _ _ _ (fun z => hb (by unfold chg; omega))]; exact h.fr b hb
end
