section
/-! ALL THAT IS KEPT -/
abbrev Tn := (Cx) × (Rw) × (Rw) × (Lw) × (Dn) × (Tr) × (Nat) × (Nat) × (Nat → Nat) × (Nat) × (Nat → Nat) × (Nat → Nat) × (Nat → Nat) × (Nat) × (Nat → Nat) × (Nat → Nat)
def Tn.x (zz : Tn) : Cx := zz.1
def Tn.W (zz : Tn) : Rw := zz.2.1
def Tn.B (zz : Tn) : Rw := zz.2.2.1
def Tn.l (zz : Tn) : Lw := zz.2.2.2.1
def Tn.dn (zz : Tn) : Dn := zz.2.2.2.2.1
def Tn.tr (zz : Tn) : Tr := zz.2.2.2.2.2.1
def Tn.bn (zz : Tn) : Nat := zz.2.2.2.2.2.2.1
def Tn.pn (zz : Tn) : Nat := zz.2.2.2.2.2.2.2.1
def Tn.pr (zz : Tn) : Nat → Nat := zz.2.2.2.2.2.2.2.2.1
def Tn.wn (zz : Tn) : Nat := zz.2.2.2.2.2.2.2.2.2.1
def Tn.ea (zz : Tn) : Nat → Nat := zz.2.2.2.2.2.2.2.2.2.2.1
def Tn.eb (zz : Tn) : Nat → Nat := zz.2.2.2.2.2.2.2.2.2.2.2.1
def Tn.rt (zz : Tn) : Nat → Nat := zz.2.2.2.2.2.2.2.2.2.2.2.2.1
def Tn.sn (zz : Tn) : Nat := zz.2.2.2.2.2.2.2.2.2.2.2.2.2.1
def Tn.sw (zz : Tn) : Nat → Nat := zz.2.2.2.2.2.2.2.2.2.2.2.2.2.2.1
def Tn.sv (zz : Tn) : Nat → Nat := zz.2.2.2.2.2.2.2.2.2.2.2.2.2.2.2
abbrev CT (b : Nat) (M : am_M) (t : Tn) : Prop := (CW (b + 1) M t.x t.W) ∧ (∀ k, k < 600 → M (b + 13) k = t.B k) ∧ (CLw (b + 14) M t.l) ∧ (CDn (b + 22) M t.dn) ∧ (CTr (b + 24) M t.tr) ∧ (M (b + 26) 1 = nI t.bn) ∧ (M (b + 28) 1 = nI t.pn) ∧ (∀ k, k < t.pn → M (b + 29) k = nI (t.pr k)) ∧ (M (b + 33) 1 = nI t.wn) ∧ (∀ k, k < t.wn → M (b + 34) (2 * k) = nI (t.ea k) ∧ M (b + 34) (2 * k + 1) = nI (t.eb k)) ∧ (∀ k, k < 16 → M (b + 38) k = nI (t.rt k)) ∧ (M (b + 37) 3 = nI t.sn) ∧ (∀ k, k < t.sn → M (b + 39) k = nI (t.sw k)) ∧ (∀ k, k < t.sn → M (b + 40) k = nI (t.sv k))
theorem CT.w {b : Nat} {M : am_M} {t : Tn} (zz : CT b M t) : CW (b + 1) M t.x t.W := zz.1
theorem CT.bk {b : Nat} {M : am_M} {t : Tn} (zz : CT b M t) : ∀ k, k < 600 → M (b + 13) k = t.B k := zz.2.1
theorem CT.lw {b : Nat} {M : am_M} {t : Tn} (zz : CT b M t) : CLw (b + 14) M t.l := zz.2.2.1
theorem CT.dn {b : Nat} {M : am_M} {t : Tn} (zz : CT b M t) : CDn (b + 22) M t.dn := zz.2.2.2.1
theorem CT.tr {b : Nat} {M : am_M} {t : Tn} (zz : CT b M t) : CTr (b + 24) M t.tr := zz.2.2.2.2.1
theorem CT.bn {b : Nat} {M : am_M} {t : Tn} (zz : CT b M t) : M (b + 26) 1 = nI t.bn := zz.2.2.2.2.2.1
theorem CT.pn {b : Nat} {M : am_M} {t : Tn} (zz : CT b M t) : M (b + 28) 1 = nI t.pn := zz.2.2.2.2.2.2.1
theorem CT.pr {b : Nat} {M : am_M} {t : Tn} (zz : CT b M t) : ∀ k, k < t.pn → M (b + 29) k = nI (t.pr k) := zz.2.2.2.2.2.2.2.1
theorem CT.wn {b : Nat} {M : am_M} {t : Tn} (zz : CT b M t) : M (b + 33) 1 = nI t.wn := zz.2.2.2.2.2.2.2.2.1
theorem CT.we {b : Nat} {M : am_M} {t : Tn} (zz : CT b M t) : ∀ k, k < t.wn → M (b + 34) (2 * k) = nI (t.ea k) ∧ M (b + 34) (2 * k + 1) = nI (t.eb k) := zz.2.2.2.2.2.2.2.2.2.1
theorem CT.rt {b : Nat} {M : am_M} {t : Tn} (zz : CT b M t) : ∀ k, k < 16 → M (b + 38) k = nI (t.rt k) := zz.2.2.2.2.2.2.2.2.2.2.1
theorem CT.sn {b : Nat} {M : am_M} {t : Tn} (zz : CT b M t) : M (b + 37) 3 = nI t.sn := zz.2.2.2.2.2.2.2.2.2.2.2.1
theorem CT.sw {b : Nat} {M : am_M} {t : Tn} (zz : CT b M t) : ∀ k, k < t.sn → M (b + 39) k = nI (t.sw k) := zz.2.2.2.2.2.2.2.2.2.2.2.2.1
theorem CT.sv {b : Nat} {M : am_M} {t : Tn} (zz : CT b M t) : ∀ k, k < t.sn → M (b + 40) k = nI (t.sv k) := zz.2.2.2.2.2.2.2.2.2.2.2.2.2
abbrev MTV (V : am_M) (t : Tn) : Prop := (∀ k, k < 136 → V 206 k = t.W k) ∧ (∀ k, k < 600 → V 211 k = t.B k) ∧ (MX V t.x) ∧ (MLw V t.l) ∧ (MDn V t.dn) ∧ (MTr V t.tr) ∧ (V 205 41 = nI t.bn) ∧ (V 205 45 = nI t.pn) ∧ (∀ k, k < t.pn → V 227 k = nI (t.pr k)) ∧ (V 205 51 = nI t.wn) ∧ (∀ p q, p < 8 → q < 8 → bt (V 232 p) q = wyB t.ea t.eb t.wn p q) ∧ (∀ k, k < 16 → V 229 k = nI (t.rt k)) ∧ (V 205 54 = nI t.sn) ∧ (∀ k, k < t.sn → V 234 k = nI (t.sw k)) ∧ (∀ k, k < t.sn → V 235 k = nI (t.sv k))
theorem MTV.w {V : am_M} {t : Tn} (zz : MTV V t) : ∀ k, k < 136 → V 206 k = t.W k := zz.1
theorem MTV.bk {V : am_M} {t : Tn} (zz : MTV V t) : ∀ k, k < 600 → V 211 k = t.B k := zz.2.1
theorem MTV.mx {V : am_M} {t : Tn} (zz : MTV V t) : MX V t.x := zz.2.2.1
theorem MTV.lw {V : am_M} {t : Tn} (zz : MTV V t) : MLw V t.l := zz.2.2.2.1
theorem MTV.dn {V : am_M} {t : Tn} (zz : MTV V t) : MDn V t.dn := zz.2.2.2.2.1
theorem MTV.tr {V : am_M} {t : Tn} (zz : MTV V t) : MTr V t.tr := zz.2.2.2.2.2.1
theorem MTV.bn {V : am_M} {t : Tn} (zz : MTV V t) : V 205 41 = nI t.bn := zz.2.2.2.2.2.2.1
theorem MTV.pn {V : am_M} {t : Tn} (zz : MTV V t) : V 205 45 = nI t.pn := zz.2.2.2.2.2.2.2.1
theorem MTV.pr {V : am_M} {t : Tn} (zz : MTV V t) : ∀ k, k < t.pn → V 227 k = nI (t.pr k) := zz.2.2.2.2.2.2.2.2.1
theorem MTV.wn {V : am_M} {t : Tn} (zz : MTV V t) : V 205 51 = nI t.wn := zz.2.2.2.2.2.2.2.2.2.1
theorem MTV.wy {V : am_M} {t : Tn} (zz : MTV V t) : ∀ p q, p < 8 → q < 8 → bt (V 232 p) q = wyB t.ea t.eb t.wn p q := zz.2.2.2.2.2.2.2.2.2.2.1
theorem MTV.rt {V : am_M} {t : Tn} (zz : MTV V t) : ∀ k, k < 16 → V 229 k = nI (t.rt k) := zz.2.2.2.2.2.2.2.2.2.2.2.1
theorem MTV.sn {V : am_M} {t : Tn} (zz : MTV V t) : V 205 54 = nI t.sn := zz.2.2.2.2.2.2.2.2.2.2.2.2.1
theorem MTV.sw {V : am_M} {t : Tn} (zz : MTV V t) : ∀ k, k < t.sn → V 234 k = nI (t.sw k) := zz.2.2.2.2.2.2.2.2.2.2.2.2.2.1
theorem MTV.sv {V : am_M} {t : Tn} (zz : MTV V t) : ∀ k, k < t.sn → V 235 k = nI (t.sv k) := zz.2.2.2.2.2.2.2.2.2.2.2.2.2.2
/-- what lies beyond what there is, is 0 -/
abbrev ZB (x : Cx) (W : Rw) : Prop := (∀ k, k < 6 → x.L ≤ k → W (4 + k) = 0) ∧ (∀ k, k < 6 → x.L ≤ k → W (10 + k) = 0) ∧ (∀ k, k < 6 → x.L ≤ k → W (16 + k) = 0) ∧ (∀ k, k < 6 → x.L ≤ k → W (22 + k) = 0) ∧ (∀ k, k < 10 → x.T ≤ k → W (46 + k) = 0) ∧ (∀ t g, t < 10 → g < 8 → (x.T ≤ t ∨ x.G ≤ g) → W (56 + (8 * t + g)) = 0)
theorem ZB.h {x : Cx} {W : Rw} (zz : ZB x W) : ∀ k, k < 6 → x.L ≤ k → W (4 + k) = 0 := zz.1
theorem ZB.t {x : Cx} {W : Rw} (zz : ZB x W) : ∀ k, k < 6 → x.L ≤ k → W (10 + k) = 0 := zz.2.1
theorem ZB.l {x : Cx} {W : Rw} (zz : ZB x W) : ∀ k, k < 6 → x.L ≤ k → W (16 + k) = 0 := zz.2.2.1
theorem ZB.s {x : Cx} {W : Rw} (zz : ZB x W) : ∀ k, k < 6 → x.L ≤ k → W (22 + k) = 0 := zz.2.2.2.1
theorem ZB.r {x : Cx} {W : Rw} (zz : ZB x W) : ∀ k, k < 10 → x.T ≤ k → W (46 + k) = 0 := zz.2.2.2.2.1
theorem ZB.st {x : Cx} {W : Rw} (zz : ZB x W) : ∀ t g, t < 10 → g < 8 → (x.T ≤ t ∨ x.G ≤ g) → W (56 + (8 * t + g)) = 0 := zz.2.2.2.2.2
abbrev WG (c : Nat) (x : Cx) (W : Rw) : Prop := (WOk x (9999 + 1582416 * c) W) ∧ (ZB x W) ∧ (∃ D, W 0 = nI D ∧ D ≤ 9999)
theorem WG.ok {c : Nat} {x : Cx} {W : Rw} (zz : WG c x W) : WOk x (9999 + 1582416 * c) W := zz.1
theorem WG.z {c : Nat} {x : Cx} {W : Rw} (zz : WG c x W) : ZB x W := zz.2.1
theorem WG.d {c : Nat} {x : Cx} {W : Rw} (zz : WG c x W) : ∃ D, W 0 = nI D ∧ D ≤ 9999 := zz.2.2
abbrev GT (c : Nat) (t : Tn) : Prop := (t.x.L ≤ 6) ∧ (t.x.G ≤ 8) ∧ (t.x.T ≤ 10) ∧ (∀ g, g < 8 → t.x.up g ≤ t.x.L) ∧ (∀ g, g < 8 → t.x.G ≤ g → t.x.up g = 0) ∧ (LwOk t.l) ∧ (DnOk t.x t.dn) ∧ (TrOk t.x t.tr) ∧ (t.bn ≤ 16) ∧ (t.pn ≤ 14) ∧ (∀ k, k < t.pn → 1 ≤ t.pr k ∧ t.pr k ≤ 99) ∧ (t.wn ≤ 14) ∧ (∀ k, k < t.wn → t.ea k < 8 ∧ t.eb k < 8) ∧ (rts t.rt) ∧ (∀ i, i < 4 → t.rt (5 * i) = 0) ∧ (t.sn ≤ 8) ∧ (∀ k, k < t.sn → 1 ≤ t.sw k ∧ t.sw k ≤ 30) ∧ (∀ k, k < t.sn → 1 ≤ t.sv k ∧ t.sv k ≤ 99) ∧ (WG c t.x t.W)
theorem GT.L6 {c : Nat} {t : Tn} (zz : GT c t) : t.x.L ≤ 6 := zz.1
theorem GT.G8 {c : Nat} {t : Tn} (zz : GT c t) : t.x.G ≤ 8 := zz.2.1
theorem GT.T10 {c : Nat} {t : Tn} (zz : GT c t) : t.x.T ≤ 10 := zz.2.2.1
theorem GT.up {c : Nat} {t : Tn} (zz : GT c t) : ∀ g, g < 8 → t.x.up g ≤ t.x.L := zz.2.2.2.1
theorem GT.u0 {c : Nat} {t : Tn} (zz : GT c t) : ∀ g, g < 8 → t.x.G ≤ g → t.x.up g = 0 := zz.2.2.2.2.1
theorem GT.ok {c : Nat} {t : Tn} (zz : GT c t) : LwOk t.l := zz.2.2.2.2.2.1
theorem GT.dk {c : Nat} {t : Tn} (zz : GT c t) : DnOk t.x t.dn := zz.2.2.2.2.2.2.1
theorem GT.tk {c : Nat} {t : Tn} (zz : GT c t) : TrOk t.x t.tr := zz.2.2.2.2.2.2.2.1
theorem GT.b16 {c : Nat} {t : Tn} (zz : GT c t) : t.bn ≤ 16 := zz.2.2.2.2.2.2.2.2.1
theorem GT.p14 {c : Nat} {t : Tn} (zz : GT c t) : t.pn ≤ 14 := zz.2.2.2.2.2.2.2.2.2.1
theorem GT.pr {c : Nat} {t : Tn} (zz : GT c t) : ∀ k, k < t.pn → 1 ≤ t.pr k ∧ t.pr k ≤ 99 := zz.2.2.2.2.2.2.2.2.2.2.1
theorem GT.w14 {c : Nat} {t : Tn} (zz : GT c t) : t.wn ≤ 14 := zz.2.2.2.2.2.2.2.2.2.2.2.1
theorem GT.we {c : Nat} {t : Tn} (zz : GT c t) : ∀ k, k < t.wn → t.ea k < 8 ∧ t.eb k < 8 := zz.2.2.2.2.2.2.2.2.2.2.2.2.1
theorem GT.rt {c : Nat} {t : Tn} (zz : GT c t) : rts t.rt := zz.2.2.2.2.2.2.2.2.2.2.2.2.2.1
theorem GT.r0 {c : Nat} {t : Tn} (zz : GT c t) : ∀ i, i < 4 → t.rt (5 * i) = 0 := zz.2.2.2.2.2.2.2.2.2.2.2.2.2.2.1
theorem GT.s8 {c : Nat} {t : Tn} (zz : GT c t) : t.sn ≤ 8 := zz.2.2.2.2.2.2.2.2.2.2.2.2.2.2.2.1
theorem GT.sw {c : Nat} {t : Tn} (zz : GT c t) : ∀ k, k < t.sn → 1 ≤ t.sw k ∧ t.sw k ≤ 30 := zz.2.2.2.2.2.2.2.2.2.2.2.2.2.2.2.2.1
theorem GT.sv {c : Nat} {t : Tn} (zz : GT c t) : ∀ k, k < t.sn → 1 ≤ t.sv k ∧ t.sv k ≤ 99 := zz.2.2.2.2.2.2.2.2.2.2.2.2.2.2.2.2.2.1
theorem GT.wg {c : Nat} {t : Tn} (zz : GT c t) : WG c t.x t.W := zz.2.2.2.2.2.2.2.2.2.2.2.2.2.2.2.2.2.2
theorem WG_mono {c c' : Nat} {x : Cx} {W : Rw} (h : WG c x W) (hc : c ≤ c') : WG c' x W := ⟨WOk_mono h.ok (by have := Nat.mul_le_mul_left 1582416 hc; omega), h.z, h.d⟩
theorem GT_mono {c c' : Nat} {t : Tn} (h : GT c t) (hc : c ≤ c') : GT c' t := ⟨h.L6, h.G8, h.T10, h.up, h.u0, h.ok, h.dk, h.tk, h.b16, h.p14, h.pr, h.w14, h.we, h.rt, h.r0, h.s8, h.sw, h.sv, WG_mono h.wg hc⟩
abbrev St := (Tn) × (Nat) × (Nat) × (Nat → Rw) × (Nat) × (Nat → Nat) × (Int32) × (Int32) × (Bool) × (Tn)
def St.t (zz : St) : Tn := zz.1
def St.n (zz : St) : Nat := zz.2.1
def St.q (zz : St) : Nat := zz.2.2.1
def St.pw (zz : St) : Nat → Rw := zz.2.2.2.1
def St.len (zz : St) : Nat := zz.2.2.2.2.1
def St.tp (zz : St) : Nat → Nat := zz.2.2.2.2.2.1
def St.fk (zz : St) : Int32 := zz.2.2.2.2.2.2.1
def St.fp (zz : St) : Int32 := zz.2.2.2.2.2.2.2.1
def St.kept (zz : St) : Bool := zz.2.2.2.2.2.2.2.2.1
def St.tk (zz : St) : Tn := zz.2.2.2.2.2.2.2.2.2
/-- the image, as rows of its own -/
def unp (M : am_M) : am_M := fun a k => if a = 206 then M 238 k else if a = 205 then (if k = 8 then M 238 136 else if k = 9 then M 238 137 else if k = 10 then M 238 138 else if k = 37 then M 238 139 else if k = 39 then M 238 140 else if k = 41 then M 238 141 else if k = 45 then M 238 142 else if k = 51 then M 238 143 else if k = 54 then M 238 144 else M 205 k) else if a = 209 then M 238 (145 + k) else if a = 210 then M 238 (151 + 5 * k) else if a = 224 then M 238 (152 + 5 * k) else if a = 232 then M 238 (153 + 5 * k) else if a = 234 then M 238 (154 + 5 * k) else if a = 235 then M 238 (155 + 5 * k) else if a = 222 then M 238 (191 + 2 * k) else if a = 223 then M 238 (192 + 2 * k) else if a = 227 then M 238 (319 + k) else if a = 229 then M 238 (333 + k) else if a = 211 then M 238 (349 + k) else if a = 214 then M 238 949 else if a = 215 then M 238 (950 + 4 * k) else if a = 216 then M 238 (951 + 4 * k) else if a = 217 then M 238 (952 + 4 * k) else if a = 218 then M 238 (953 + 4 * k) else if a = 219 then M 238 (1014 + 2 * k) else if a = 220 then M 238 (1015 + 2 * k) else M a k
def wdT (k : Nat) : Int32 := [32, 114, 105, 115, 101, 115, 32, 102, 97, 108, 108, 115, 32, 97, 115, 107, 115, 32, 119, 104, 101, 110, 32, 111, 114, 32, 97, 110, 100, 32, 110, 111, 116, 32, 118, 111, 105, 99, 101, 32, 104, 101, 105, 103, 104, 116, 32, 116, 111, 112, 32, 115, 99, 97, 114, 101, 100, 32, 119, 105, 110, 100, 32, 109, 105, 110, 117, 116, 101, 32, 98, 97, 115, 101, 32, 108, 111, 115, 116, 32, 100, 97, 121, 32, 111, 110, 32, 98, 111, 121, 32, 99, 97, 108, 109, 32, 115, 101, 101, 107, 32, 116, 114, 97, 100, 101, 114, 32, 98, 117, 121, 32, 115, 101, 108, 108, 32, 111, 102, 32, 103, 111, 111, 100, 32, 98, 121, 32].getD k 0
abbrev CI (Mi M : am_M) (s : St) : Prop := (CT 17 M s.t) ∧ (M 113 2 = nI s.n) ∧ (M 113 1 = nI s.q) ∧ (∀ i, i < s.n → CW (115 + 12 * ((s.q + 6 - s.n + i) % 6)) M s.t.x (s.pw i)) ∧ (M 187 0 = nI s.len) ∧ (∀ k, k < s.len → M 198 k = nI (s.tp k)) ∧ (M 187 1 = s.fk) ∧ (M 187 2 = s.fp) ∧ (M 16 6 = bI s.kept) ∧ (s.kept = true → CT 59 M s.tk) ∧ (∀ a, a < 16 → M a = Mi a)
theorem CI.tw {Mi M : am_M} {s : St} (zz : CI Mi M s) : CT 17 M s.t := zz.1
theorem CI.pc {Mi M : am_M} {s : St} (zz : CI Mi M s) : M 113 2 = nI s.n := zz.2.1
theorem CI.pq {Mi M : am_M} {s : St} (zz : CI Mi M s) : M 113 1 = nI s.q := zz.2.2.1
theorem CI.pw {Mi M : am_M} {s : St} (zz : CI Mi M s) : ∀ i, i < s.n → CW (115 + 12 * ((s.q + 6 - s.n + i) % 6)) M s.t.x (s.pw i) := zz.2.2.2.1
theorem CI.ln {Mi M : am_M} {s : St} (zz : CI Mi M s) : M 187 0 = nI s.len := zz.2.2.2.2.1
theorem CI.tp {Mi M : am_M} {s : St} (zz : CI Mi M s) : ∀ k, k < s.len → M 198 k = nI (s.tp k) := zz.2.2.2.2.2.1
theorem CI.fk {Mi M : am_M} {s : St} (zz : CI Mi M s) : M 187 1 = s.fk := zz.2.2.2.2.2.2.1
theorem CI.fp {Mi M : am_M} {s : St} (zz : CI Mi M s) : M 187 2 = s.fp := zz.2.2.2.2.2.2.2.1
theorem CI.kp {Mi M : am_M} {s : St} (zz : CI Mi M s) : M 16 6 = bI s.kept := zz.2.2.2.2.2.2.2.2.1
theorem CI.kt {Mi M : am_M} {s : St} (zz : CI Mi M s) : s.kept = true → CT 59 M s.tk := zz.2.2.2.2.2.2.2.2.2.1
theorem CI.lo {Mi M : am_M} {s : St} (zz : CI Mi M s) : ∀ a, a < 16 → M a = Mi a := zz.2.2.2.2.2.2.2.2.2.2
abbrev MI (M : am_M) (s : St) : Prop := (MTV M s.t) ∧ (M 205 5 = nI s.n) ∧ (∀ i, i < s.n → ∀ k, k < 136 → M 207 (136 * i + k) = s.pw i k) ∧ (M 205 7 = 0) ∧ (M 205 15 = nI s.len) ∧ (∀ k, k < s.len → M 212 k = nI (s.tp k)) ∧ (M 205 35 = s.fk) ∧ (M 205 36 = s.fp) ∧ (M 205 60 = bI s.kept) ∧ (s.kept = true → MTV (unp M) s.tk) ∧ (∀ k, k < 128 → M 213 k = wdT k) ∧ (∀ k, k < 10 → M 230 k = tb230 k) ∧ (∀ k, k < 28 → M 231 k = tb231 k)
theorem MI.tw {M : am_M} {s : St} (zz : MI M s) : MTV M s.t := zz.1
theorem MI.pc {M : am_M} {s : St} (zz : MI M s) : M 205 5 = nI s.n := zz.2.1
theorem MI.pw {M : am_M} {s : St} (zz : MI M s) : ∀ i, i < s.n → ∀ k, k < 136 → M 207 (136 * i + k) = s.pw i k := zz.2.2.1
theorem MI.th {M : am_M} {s : St} (zz : MI M s) : M 205 7 = 0 := zz.2.2.2.1
theorem MI.ln {M : am_M} {s : St} (zz : MI M s) : M 205 15 = nI s.len := zz.2.2.2.2.1
theorem MI.tp {M : am_M} {s : St} (zz : MI M s) : ∀ k, k < s.len → M 212 k = nI (s.tp k) := zz.2.2.2.2.2.1
theorem MI.fk {M : am_M} {s : St} (zz : MI M s) : M 205 35 = s.fk := zz.2.2.2.2.2.2.1
theorem MI.fp {M : am_M} {s : St} (zz : MI M s) : M 205 36 = s.fp := zz.2.2.2.2.2.2.2.1
theorem MI.kp {M : am_M} {s : St} (zz : MI M s) : M 205 60 = bI s.kept := zz.2.2.2.2.2.2.2.2.1
theorem MI.kt {M : am_M} {s : St} (zz : MI M s) : s.kept = true → MTV (unp M) s.tk := zz.2.2.2.2.2.2.2.2.2.1
theorem MI.wd {M : am_M} {s : St} (zz : MI M s) : ∀ k, k < 128 → M 213 k = wdT k := zz.2.2.2.2.2.2.2.2.2.2.1
theorem MI.t0 {M : am_M} {s : St} (zz : MI M s) : ∀ k, k < 10 → M 230 k = tb230 k := zz.2.2.2.2.2.2.2.2.2.2.2.1
theorem MI.t1 {M : am_M} {s : St} (zz : MI M s) : ∀ k, k < 28 → M 231 k = tb231 k := zz.2.2.2.2.2.2.2.2.2.2.2.2
abbrev GI (c : Nat) (s : St) : Prop := (GT c s.t) ∧ (s.n ≤ 6) ∧ (s.q < 6) ∧ (∀ i, i < s.n → WG c s.t.x (s.pw i)) ∧ (s.len ≤ 400) ∧ (∀ k, k < s.len → s.tp k < 256) ∧ (s.kept = true → GT c s.tk)
theorem GI.t {c : Nat} {s : St} (zz : GI c s) : GT c s.t := zz.1
theorem GI.n6 {c : Nat} {s : St} (zz : GI c s) : s.n ≤ 6 := zz.2.1
theorem GI.q6 {c : Nat} {s : St} (zz : GI c s) : s.q < 6 := zz.2.2.1
theorem GI.pw {c : Nat} {s : St} (zz : GI c s) : ∀ i, i < s.n → WG c s.t.x (s.pw i) := zz.2.2.2.1
theorem GI.l4 {c : Nat} {s : St} (zz : GI c s) : s.len ≤ 400 := zz.2.2.2.2.1
theorem GI.tp {c : Nat} {s : St} (zz : GI c s) : ∀ k, k < s.len → s.tp k < 256 := zz.2.2.2.2.2.1
theorem GI.kt {c : Nat} {s : St} (zz : GI c s) : s.kept = true → GT c s.tk := zz.2.2.2.2.2.2
theorem GI_mono {c c' : Nat} {s : St} (h : GI c s) (hc : c ≤ c') : GI c' s := ⟨GT_mono h.t hc, h.n6, h.q6, fun i hi => WG_mono (h.pw i hi) hc, h.l4, h.tp, fun hk => GT_mono (h.kt hk) hc⟩
/-- what of the rows below 205 stands for nothing between calls -/
def sC (a k : Nat) : Prop := a = 37 ∨ a = 38 ∨ a = 47 ∨ a = 48 ∨ a = 49 ∨ a = 52 ∨ a = 53 ∨ a = 58 ∨ (a = 54 ∧ (k = 5 ∨ k = 6)) ∨ (101 ≤ a ∧ a ≤ 112) ∨ (188 ≤ a ∧ a ≤ 197) ∨ (199 ≤ a ∧ a ≤ 201) ∨ (a = 187 ∧ 3 ≤ k) ∨ a = 203 ∨ a = 204
def sM (a k : Nat) : Prop := (a = 205 ∧ (k = 0 ∨ k = 1 ∨ k = 2 ∨ k = 16 ∨ k = 17 ∨ k = 18 ∨ k = 19 ∨ k = 28 ∨ k = 29 ∨ k = 30 ∨ k = 32 ∨ k = 33 ∨ k = 34 ∨ k = 59 ∨ k = 61)) ∨ a = 208 ∨ a = 221 ∨ a = 225 ∨ a = 226 ∨ a = 228 ∨ a = 233 ∨ a = 236 ∨ a = 237 ∨ (215 ≤ a ∧ a ≤ 218 ∧ 16 ≤ k) ∨ ((a = 219 ∨ a = 220) ∧ 400 ≤ k) ∨ ((a = 222 ∨ a = 223) ∧ 64 ≤ k) ∨ (a = 224 ∧ 8 ≤ k) ∨ (a = 214 ∧ 1 ≤ k)
def Fc (M M' : am_M) : Prop := ∀ a, 205 ≤ a → M' a = M a
def Fm (M M' : am_M) : Prop := ∀ a, a < 205 → M' a = M a
theorem Fc_row {M : am_M} {a : Nat} (r : Rw) (h : a < 205) : Fc M (am_row M a r) := fun b hb => row_ne _ _ (by omega)
theorem Fm_row {M : am_M} {a : Nat} (r : Rw) (h : 205 ≤ a) : Fm M (am_row M a r) := fun b hb => row_ne _ _ (by omega)
theorem Fc_up {M : am_M} {a : Nat} (k : Nat) (v : Int32) (h : a < 205) : Fc M (am_up M a k v) := fun b hb => up_ne _ _ _ (by omega)
theorem Fm_up {M : am_M} {a : Nat} (k : Nat) (v : Int32) (h : 205 ≤ a) : Fm M (am_up M a k v) := fun b hb => up_ne _ _ _ (by omega)
theorem Fc_tr {M M1 M2 : am_M} (h1 : Fc M M1) (h2 : Fc M1 M2) : Fc M M2 := fun a ha => (h2 a ha).trans (h1 a ha)
theorem Fm_tr {M M1 M2 : am_M} (h1 : Fm M M1) (h2 : Fm M1 M2) : Fm M M2 := fun a ha => (h2 a ha).trans (h1 a ha)
theorem Fc_id (M : am_M) : Fc M M := fun _ _ => rfl
theorem Fm_id (M : am_M) : Fm M M := fun _ _ => rfl
theorem CT_of {b : Nat} {M M' : am_M} {t : Tn} (h : CT b M t) (hb : b = 17 ∨ b = 59) (e : ∀ a k, b ≤ a → a ≤ b + 41 → ¬ (a = b + 20 ∨ a = b + 21 ∨ a = b + 30 ∨ a = b + 31 ∨ a = b + 32 ∨ a = b + 35 ∨ a = b + 36 ∨ a = b + 41 ∨ (a = b + 37 ∧ (k = 5 ∨ k = 6))) → M' a k = M a k) : CT b M' t := by
  have r : ∀ a, b ≤ a → a ≤ b + 41 → ¬ (a = b + 20 ∨ a = b + 21 ∨ a = b + 30 ∨ a = b + 31 ∨ a = b + 32 ∨ a = b + 35 ∨ a = b + 36 ∨ a = b + 41 ∨ a = b + 37) → M' a = M a := fun a h1 h2 h3 => funext fun k => e a k h1 h2 (by omega)
  refine ⟨CW_of h.w (fun a h1 h2 => r a (by omega) (by omega) (by omega)), ?_, CLw_of h.lw (fun a h1 h2 => r a (by omega) (by omega) (by omega)), CDn_of h.dn (r _ (by omega) (by omega) (by omega)) (r _ (by omega) (by omega) (by omega)), CTr_of h.tr (r _ (by omega) (by omega) (by omega)) (r _ (by omega) (by omega) (by omega)), ?_, ?_, ?_, ?_, ?_, ?_, ?_, ?_, ?_⟩
  · rw [r (b + 13) (by omega) (by omega) (by omega)]; exact h.bk
  · rw [r (b + 26) (by omega) (by omega) (by omega)]; exact h.bn
  · rw [r (b + 28) (by omega) (by omega) (by omega)]; exact h.pn
  · rw [r (b + 29) (by omega) (by omega) (by omega)]; exact h.pr
  · rw [r (b + 33) (by omega) (by omega) (by omega)]; exact h.wn
  · rw [r (b + 34) (by omega) (by omega) (by omega)]; exact h.we
  · rw [r (b + 38) (by omega) (by omega) (by omega)]; exact h.rt
  · rw [e (b + 37) 3 (by omega) (by omega) (by omega)]; exact h.sn
  · rw [r (b + 39) (by omega) (by omega) (by omega)]; exact h.sw
  · rw [r (b + 40) (by omega) (by omega) (by omega)]; exact h.sv
theorem CI_of {Mi M M' : am_M} {s : St} (h : CI Mi M s) (e : ∀ a k, a < 205 → ¬ sC a k → M' a k = M a k) : CI Mi M' s := by
  have r : ∀ a, a < 205 → (∀ k, ¬ sC a k) → M' a = M a := fun a h1 h2 => funext fun k => e a k h1 (h2 k)
  refine ⟨CT_of h.tw (by omega) (fun a k h1 h2 h3 => e a k (by omega) (by unfold sC; omega)), ?_, ?_, fun i hi => CW_of (h.pw i hi) (fun a h1 h2 => r a (by omega) (fun k => by unfold sC; omega)), ?_, ?_, ?_, ?_, ?_, fun hk => CT_of (h.kt hk) (by omega) (fun a k h1 h2 h3 => e a k (by omega) (by unfold sC; omega)), fun a ha => ?_⟩
  · rw [e 113 2 (by omega) (by unfold sC; omega)]; exact h.pc
  · rw [e 113 1 (by omega) (by unfold sC; omega)]; exact h.pq
  · rw [e 187 0 (by omega) (by unfold sC; omega)]; exact h.ln
  · rw [r 198 (by omega) (fun k => by unfold sC; omega)]; exact h.tp
  · rw [e 187 1 (by omega) (by unfold sC; omega)]; exact h.fk
  · rw [e 187 2 (by omega) (by unfold sC; omega)]; exact h.fp
  · rw [e 16 6 (by omega) (by unfold sC; omega)]; exact h.kp
  · rw [r a (by omega) (fun k => by unfold sC; omega)]; exact h.lo a ha
theorem CI_fr {Mi M M' : am_M} {s : St} (h : CI Mi M s) (e : Fm M M') : CI Mi M' s := CI_of h (fun a k ha _ => by rw [e a ha])
theorem unp_206 (M : am_M) (k : Nat) : unp M 206 k = M 238 k := by unfold unp; rw [if_pos rfl]
theorem unp_209 (M : am_M) (k : Nat) : unp M 209 k = M 238 (145 + k) := by unfold unp; rw [if_neg (by decide), if_neg (by decide), if_pos rfl]
theorem unp_210 (M : am_M) (k : Nat) : unp M 210 k = M 238 (151 + 5 * k) := by unfold unp; rw [if_neg (by decide), if_neg (by decide), if_neg (by decide), if_pos rfl]
theorem unp_224 (M : am_M) (k : Nat) : unp M 224 k = M 238 (152 + 5 * k) := by unfold unp; rw [if_neg (by decide), if_neg (by decide), if_neg (by decide), if_neg (by decide), if_pos rfl]
theorem unp_232 (M : am_M) (k : Nat) : unp M 232 k = M 238 (153 + 5 * k) := by unfold unp; rw [if_neg (by decide), if_neg (by decide), if_neg (by decide), if_neg (by decide), if_neg (by decide), if_pos rfl]
theorem unp_234 (M : am_M) (k : Nat) : unp M 234 k = M 238 (154 + 5 * k) := by unfold unp; rw [if_neg (by decide), if_neg (by decide), if_neg (by decide), if_neg (by decide), if_neg (by decide), if_neg (by decide), if_pos rfl]
theorem unp_235 (M : am_M) (k : Nat) : unp M 235 k = M 238 (155 + 5 * k) := by unfold unp; rw [if_neg (by decide), if_neg (by decide), if_neg (by decide), if_neg (by decide), if_neg (by decide), if_neg (by decide), if_neg (by decide), if_pos rfl]
theorem unp_222 (M : am_M) (k : Nat) : unp M 222 k = M 238 (191 + 2 * k) := by unfold unp; rw [if_neg (by decide), if_neg (by decide), if_neg (by decide), if_neg (by decide), if_neg (by decide), if_neg (by decide), if_neg (by decide), if_neg (by decide), if_pos rfl]
theorem unp_223 (M : am_M) (k : Nat) : unp M 223 k = M 238 (192 + 2 * k) := by unfold unp; rw [if_neg (by decide), if_neg (by decide), if_neg (by decide), if_neg (by decide), if_neg (by decide), if_neg (by decide), if_neg (by decide), if_neg (by decide), if_neg (by decide), if_pos rfl]
theorem unp_227 (M : am_M) (k : Nat) : unp M 227 k = M 238 (319 + k) := by unfold unp; rw [if_neg (by decide), if_neg (by decide), if_neg (by decide), if_neg (by decide), if_neg (by decide), if_neg (by decide), if_neg (by decide), if_neg (by decide), if_neg (by decide), if_neg (by decide), if_pos rfl]
theorem unp_229 (M : am_M) (k : Nat) : unp M 229 k = M 238 (333 + k) := by unfold unp; rw [if_neg (by decide), if_neg (by decide), if_neg (by decide), if_neg (by decide), if_neg (by decide), if_neg (by decide), if_neg (by decide), if_neg (by decide), if_neg (by decide), if_neg (by decide), if_neg (by decide), if_pos rfl]
theorem unp_211 (M : am_M) (k : Nat) : unp M 211 k = M 238 (349 + k) := by unfold unp; rw [if_neg (by decide), if_neg (by decide), if_neg (by decide), if_neg (by decide), if_neg (by decide), if_neg (by decide), if_neg (by decide), if_neg (by decide), if_neg (by decide), if_neg (by decide), if_neg (by decide), if_neg (by decide), if_pos rfl]
theorem unp_214 (M : am_M) (k : Nat) : unp M 214 k = M 238 949 := by unfold unp; rw [if_neg (by decide), if_neg (by decide), if_neg (by decide), if_neg (by decide), if_neg (by decide), if_neg (by decide), if_neg (by decide), if_neg (by decide), if_neg (by decide), if_neg (by decide), if_neg (by decide), if_neg (by decide), if_neg (by decide), if_pos rfl]
theorem unp_215 (M : am_M) (k : Nat) : unp M 215 k = M 238 (950 + 4 * k) := by unfold unp; rw [if_neg (by decide), if_neg (by decide), if_neg (by decide), if_neg (by decide), if_neg (by decide), if_neg (by decide), if_neg (by decide), if_neg (by decide), if_neg (by decide), if_neg (by decide), if_neg (by decide), if_neg (by decide), if_neg (by decide), if_neg (by decide), if_pos rfl]
theorem unp_216 (M : am_M) (k : Nat) : unp M 216 k = M 238 (951 + 4 * k) := by unfold unp; rw [if_neg (by decide), if_neg (by decide), if_neg (by decide), if_neg (by decide), if_neg (by decide), if_neg (by decide), if_neg (by decide), if_neg (by decide), if_neg (by decide), if_neg (by decide), if_neg (by decide), if_neg (by decide), if_neg (by decide), if_neg (by decide), if_neg (by decide), if_pos rfl]
theorem unp_217 (M : am_M) (k : Nat) : unp M 217 k = M 238 (952 + 4 * k) := by unfold unp; rw [if_neg (by decide), if_neg (by decide), if_neg (by decide), if_neg (by decide), if_neg (by decide), if_neg (by decide), if_neg (by decide), if_neg (by decide), if_neg (by decide), if_neg (by decide), if_neg (by decide), if_neg (by decide), if_neg (by decide), if_neg (by decide), if_neg (by decide), if_neg (by decide), if_pos rfl]
theorem unp_218 (M : am_M) (k : Nat) : unp M 218 k = M 238 (953 + 4 * k) := by unfold unp; rw [if_neg (by decide), if_neg (by decide), if_neg (by decide), if_neg (by decide), if_neg (by decide), if_neg (by decide), if_neg (by decide), if_neg (by decide), if_neg (by decide), if_neg (by decide), if_neg (by decide), if_neg (by decide), if_neg (by decide), if_neg (by decide), if_neg (by decide), if_neg (by decide), if_neg (by decide), if_pos rfl]
theorem unp_219 (M : am_M) (k : Nat) : unp M 219 k = M 238 (1014 + 2 * k) := by unfold unp; rw [if_neg (by decide), if_neg (by decide), if_neg (by decide), if_neg (by decide), if_neg (by decide), if_neg (by decide), if_neg (by decide), if_neg (by decide), if_neg (by decide), if_neg (by decide), if_neg (by decide), if_neg (by decide), if_neg (by decide), if_neg (by decide), if_neg (by decide), if_neg (by decide), if_neg (by decide), if_neg (by decide), if_pos rfl]
theorem unp_220 (M : am_M) (k : Nat) : unp M 220 k = M 238 (1015 + 2 * k) := by unfold unp; rw [if_neg (by decide), if_neg (by decide), if_neg (by decide), if_neg (by decide), if_neg (by decide), if_neg (by decide), if_neg (by decide), if_neg (by decide), if_neg (by decide), if_neg (by decide), if_neg (by decide), if_neg (by decide), if_neg (by decide), if_neg (by decide), if_neg (by decide), if_neg (by decide), if_neg (by decide), if_neg (by decide), if_neg (by decide), if_pos rfl]
theorem unp_5_8 (M : am_M) : unp M 205 8 = M 238 136 := by unfold unp; rw [if_neg (by decide), if_pos rfl, if_pos rfl]
theorem unp_5_9 (M : am_M) : unp M 205 9 = M 238 137 := by unfold unp; rw [if_neg (by decide), if_pos rfl, if_neg (by decide), if_pos rfl]
theorem unp_5_10 (M : am_M) : unp M 205 10 = M 238 138 := by unfold unp; rw [if_neg (by decide), if_pos rfl, if_neg (by decide), if_neg (by decide), if_pos rfl]
theorem unp_5_37 (M : am_M) : unp M 205 37 = M 238 139 := by unfold unp; rw [if_neg (by decide), if_pos rfl, if_neg (by decide), if_neg (by decide), if_neg (by decide), if_pos rfl]
theorem unp_5_39 (M : am_M) : unp M 205 39 = M 238 140 := by unfold unp; rw [if_neg (by decide), if_pos rfl, if_neg (by decide), if_neg (by decide), if_neg (by decide), if_neg (by decide), if_pos rfl]
theorem unp_5_41 (M : am_M) : unp M 205 41 = M 238 141 := by unfold unp; rw [if_neg (by decide), if_pos rfl, if_neg (by decide), if_neg (by decide), if_neg (by decide), if_neg (by decide), if_neg (by decide), if_pos rfl]
theorem unp_5_45 (M : am_M) : unp M 205 45 = M 238 142 := by unfold unp; rw [if_neg (by decide), if_pos rfl, if_neg (by decide), if_neg (by decide), if_neg (by decide), if_neg (by decide), if_neg (by decide), if_neg (by decide), if_pos rfl]
theorem unp_5_51 (M : am_M) : unp M 205 51 = M 238 143 := by unfold unp; rw [if_neg (by decide), if_pos rfl, if_neg (by decide), if_neg (by decide), if_neg (by decide), if_neg (by decide), if_neg (by decide), if_neg (by decide), if_neg (by decide), if_pos rfl]
theorem unp_5_54 (M : am_M) : unp M 205 54 = M 238 144 := by unfold unp; rw [if_neg (by decide), if_pos rfl, if_neg (by decide), if_neg (by decide), if_neg (by decide), if_neg (by decide), if_neg (by decide), if_neg (by decide), if_neg (by decide), if_neg (by decide), if_pos rfl]
/-- the same town stands in both -/
abbrev eqM (V V' : am_M) : Prop := (V' 205 8 = V 205 8) ∧ (V' 205 9 = V 205 9) ∧ (V' 205 10 = V 205 10) ∧ (V' 205 37 = V 205 37) ∧ (V' 205 39 = V 205 39) ∧ (V' 205 41 = V 205 41) ∧ (V' 205 45 = V 205 45) ∧ (V' 205 51 = V 205 51) ∧ (V' 205 54 = V 205 54) ∧ (V' 214 0 = V 214 0) ∧ (∀ k, k < 136 → V' 206 k = V 206 k) ∧ (∀ k, k < 6 → V' 209 k = V 209 k) ∧ (∀ k, k < 8 → V' 210 k = V 210 k) ∧ (∀ k, k < 8 → V' 224 k = V 224 k) ∧ (∀ k, k < 8 → V' 232 k = V 232 k) ∧ (∀ k, k < 8 → V' 234 k = V 234 k) ∧ (∀ k, k < 8 → V' 235 k = V 235 k) ∧ (∀ k, k < 64 → V' 222 k = V 222 k) ∧ (∀ k, k < 64 → V' 223 k = V 223 k) ∧ (∀ k, k < 14 → V' 227 k = V 227 k) ∧ (∀ k, k < 16 → V' 229 k = V 229 k) ∧ (∀ k, k < 600 → V' 211 k = V 211 k) ∧ (∀ k, k < 16 → V' 215 k = V 215 k) ∧ (∀ k, k < 16 → V' 216 k = V 216 k) ∧ (∀ k, k < 16 → V' 217 k = V 217 k) ∧ (∀ k, k < 16 → V' 218 k = V 218 k) ∧ (∀ k, k < 400 → V' 219 k = V 219 k) ∧ (∀ k, k < 400 → V' 220 k = V 220 k)
theorem eqM.f8 {V V' : am_M} (zz : eqM V V') : V' 205 8 = V 205 8 := zz.1
theorem eqM.f9 {V V' : am_M} (zz : eqM V V') : V' 205 9 = V 205 9 := zz.2.1
theorem eqM.f10 {V V' : am_M} (zz : eqM V V') : V' 205 10 = V 205 10 := zz.2.2.1
theorem eqM.f37 {V V' : am_M} (zz : eqM V V') : V' 205 37 = V 205 37 := zz.2.2.2.1
theorem eqM.f39 {V V' : am_M} (zz : eqM V V') : V' 205 39 = V 205 39 := zz.2.2.2.2.1
theorem eqM.f41 {V V' : am_M} (zz : eqM V V') : V' 205 41 = V 205 41 := zz.2.2.2.2.2.1
theorem eqM.f45 {V V' : am_M} (zz : eqM V V') : V' 205 45 = V 205 45 := zz.2.2.2.2.2.2.1
theorem eqM.f51 {V V' : am_M} (zz : eqM V V') : V' 205 51 = V 205 51 := zz.2.2.2.2.2.2.2.1
theorem eqM.f54 {V V' : am_M} (zz : eqM V V') : V' 205 54 = V 205 54 := zz.2.2.2.2.2.2.2.2.1
theorem eqM.r214 {V V' : am_M} (zz : eqM V V') : V' 214 0 = V 214 0 := zz.2.2.2.2.2.2.2.2.2.1
theorem eqM.r206 {V V' : am_M} (zz : eqM V V') : ∀ k, k < 136 → V' 206 k = V 206 k := zz.2.2.2.2.2.2.2.2.2.2.1
theorem eqM.r209 {V V' : am_M} (zz : eqM V V') : ∀ k, k < 6 → V' 209 k = V 209 k := zz.2.2.2.2.2.2.2.2.2.2.2.1
theorem eqM.r210 {V V' : am_M} (zz : eqM V V') : ∀ k, k < 8 → V' 210 k = V 210 k := zz.2.2.2.2.2.2.2.2.2.2.2.2.1
theorem eqM.r224 {V V' : am_M} (zz : eqM V V') : ∀ k, k < 8 → V' 224 k = V 224 k := zz.2.2.2.2.2.2.2.2.2.2.2.2.2.1
theorem eqM.r232 {V V' : am_M} (zz : eqM V V') : ∀ k, k < 8 → V' 232 k = V 232 k := zz.2.2.2.2.2.2.2.2.2.2.2.2.2.2.1
theorem eqM.r234 {V V' : am_M} (zz : eqM V V') : ∀ k, k < 8 → V' 234 k = V 234 k := zz.2.2.2.2.2.2.2.2.2.2.2.2.2.2.2.1
theorem eqM.r235 {V V' : am_M} (zz : eqM V V') : ∀ k, k < 8 → V' 235 k = V 235 k := zz.2.2.2.2.2.2.2.2.2.2.2.2.2.2.2.2.1
theorem eqM.r222 {V V' : am_M} (zz : eqM V V') : ∀ k, k < 64 → V' 222 k = V 222 k := zz.2.2.2.2.2.2.2.2.2.2.2.2.2.2.2.2.2.1
theorem eqM.r223 {V V' : am_M} (zz : eqM V V') : ∀ k, k < 64 → V' 223 k = V 223 k := zz.2.2.2.2.2.2.2.2.2.2.2.2.2.2.2.2.2.2.1
theorem eqM.r227 {V V' : am_M} (zz : eqM V V') : ∀ k, k < 14 → V' 227 k = V 227 k := zz.2.2.2.2.2.2.2.2.2.2.2.2.2.2.2.2.2.2.2.1
theorem eqM.r229 {V V' : am_M} (zz : eqM V V') : ∀ k, k < 16 → V' 229 k = V 229 k := zz.2.2.2.2.2.2.2.2.2.2.2.2.2.2.2.2.2.2.2.2.1
theorem eqM.r211 {V V' : am_M} (zz : eqM V V') : ∀ k, k < 600 → V' 211 k = V 211 k := zz.2.2.2.2.2.2.2.2.2.2.2.2.2.2.2.2.2.2.2.2.2.1
theorem eqM.r215 {V V' : am_M} (zz : eqM V V') : ∀ k, k < 16 → V' 215 k = V 215 k := zz.2.2.2.2.2.2.2.2.2.2.2.2.2.2.2.2.2.2.2.2.2.2.1
theorem eqM.r216 {V V' : am_M} (zz : eqM V V') : ∀ k, k < 16 → V' 216 k = V 216 k := zz.2.2.2.2.2.2.2.2.2.2.2.2.2.2.2.2.2.2.2.2.2.2.2.1
theorem eqM.r217 {V V' : am_M} (zz : eqM V V') : ∀ k, k < 16 → V' 217 k = V 217 k := zz.2.2.2.2.2.2.2.2.2.2.2.2.2.2.2.2.2.2.2.2.2.2.2.2.1
theorem eqM.r218 {V V' : am_M} (zz : eqM V V') : ∀ k, k < 16 → V' 218 k = V 218 k := zz.2.2.2.2.2.2.2.2.2.2.2.2.2.2.2.2.2.2.2.2.2.2.2.2.2.1
theorem eqM.r219 {V V' : am_M} (zz : eqM V V') : ∀ k, k < 400 → V' 219 k = V 219 k := zz.2.2.2.2.2.2.2.2.2.2.2.2.2.2.2.2.2.2.2.2.2.2.2.2.2.2.1
theorem eqM.r220 {V V' : am_M} (zz : eqM V V') : ∀ k, k < 400 → V' 220 k = V 220 k := zz.2.2.2.2.2.2.2.2.2.2.2.2.2.2.2.2.2.2.2.2.2.2.2.2.2.2.2
abbrev bdT (t : Tn) : Prop := (t.l.n ≤ 16) ∧ (t.l.u ≤ 400) ∧ (t.dn.n ≤ 16) ∧ (t.tr.n ≤ 16) ∧ (t.pn ≤ 14) ∧ (t.sn ≤ 8)
theorem bdT.l {t : Tn} (zz : bdT t) : t.l.n ≤ 16 := zz.1
theorem bdT.u {t : Tn} (zz : bdT t) : t.l.u ≤ 400 := zz.2.1
theorem bdT.d {t : Tn} (zz : bdT t) : t.dn.n ≤ 16 := zz.2.2.1
theorem bdT.r {t : Tn} (zz : bdT t) : t.tr.n ≤ 16 := zz.2.2.2.1
theorem bdT.p {t : Tn} (zz : bdT t) : t.pn ≤ 14 := zz.2.2.2.2.1
theorem bdT.s {t : Tn} (zz : bdT t) : t.sn ≤ 8 := zz.2.2.2.2.2
theorem GT_bd {c : Nat} {t : Tn} (h : GT c t) : bdT t := ⟨h.ok.n16, h.ok.u400, h.dk.n16, h.tk.n16, h.p14, h.s8⟩
theorem MX_of {V V' : am_M} {x : Cx} (h : MX V x) (e : eqM V V') : MX V' x := ⟨e.f8.trans h.fL, e.f9.trans h.fG, e.f10.trans h.fT, fun k hk => (e.r209 k hk).trans (h.vo k hk), fun k hk => (e.r210 k hk).trans (h.ba k hk), fun k hk => (e.r224 k hk).trans (h.up k hk)⟩
theorem MLw_e {V V' : am_M} {l : Lw} (h : MLw V l) (e : eqM V V') (hn : l.n ≤ 16) (hu : l.u ≤ 400) : MLw V' l := ⟨e.r214.trans h.n, fun k hk => (e.r215 k (by omega)).trans (h.w k hk), fun k hk => (e.r216 k (by omega)).trans (h.f k hk), fun k hk => (e.r217 k (by omega)).trans (h.h k hk), fun k hk => (e.r218 k (by omega)).trans (h.t k hk), fun k hk => (e.r219 k (by omega)).trans (h.op k hk), fun k hk => (e.r220 k (by omega)).trans (h.ar k hk)⟩
theorem MDn_e {V V' : am_M} {d : Dn} (h : MDn V d) (e : eqM V V') (hn : d.n ≤ 16) : MDn V' d := ⟨e.f37.trans h.n, fun k hk => (e.r222 _ (by omega)).trans (h.day k hk), fun k hk => (e.r222 _ (by omega)).trans (h.kd k hk), fun k hk => (e.r222 _ (by omega)).trans (h.wo k hk), fun k hk => (e.r222 _ (by omega)).trans (h.mn k hk)⟩
theorem MTr_e {V V' : am_M} {d : Tr} (h : MTr V d) (e : eqM V V') (hn : d.n ≤ 16) : MTr V' d := ⟨e.f39.trans h.n, fun k hk => (e.r223 _ (by omega)).trans (h.day k hk), fun k hk => (e.r223 _ (by omega)).trans (h.wo k hk), fun k hk => (e.r223 _ (by omega)).trans (h.mn k hk), fun k hk => (e.r223 _ (by omega)).trans (h.gd k hk)⟩
theorem MTV_of {V V' : am_M} {t : Tn} (h : MTV V t) (g : bdT t) (e : eqM V V') : MTV V' t := by
  have h5 := g.p
  have h6 := g.s
  exact ⟨fun k hk => (e.r206 k hk).trans (h.w k hk), fun k hk => (e.r211 k hk).trans (h.bk k hk), MX_of h.mx e, MLw_e h.lw e g.l g.u, MDn_e h.dn e g.d, MTr_e h.tr e g.r, e.f41.trans h.bn, e.f45.trans h.pn, fun k hk => (e.r227 k (by omega)).trans (h.pr k hk), e.f51.trans h.wn, fun p q hp hq => by rw [e.r232 p hp]; exact h.wy p q hp hq, fun k hk => (e.r229 k hk).trans (h.rt k hk), e.f54.trans h.sn, fun k hk => (e.r234 k (by omega)).trans (h.sw k hk), fun k hk => (e.r235 k (by omega)).trans (h.sv k hk)⟩
theorem unp_of {M M' : am_M} (e : M' 238 = M 238) : eqM (unp M) (unp M') := ⟨by rw [unp_5_8, unp_5_8, e], by rw [unp_5_9, unp_5_9, e], by rw [unp_5_10, unp_5_10, e], by rw [unp_5_37, unp_5_37, e], by rw [unp_5_39, unp_5_39, e], by rw [unp_5_41, unp_5_41, e], by rw [unp_5_45, unp_5_45, e], by rw [unp_5_51, unp_5_51, e], by rw [unp_5_54, unp_5_54, e], by rw [unp_214, unp_214, e], fun k _ => by rw [unp_206, unp_206, e], fun k _ => by rw [unp_209, unp_209, e], fun k _ => by rw [unp_210, unp_210, e], fun k _ => by rw [unp_224, unp_224, e], fun k _ => by rw [unp_232, unp_232, e], fun k _ => by rw [unp_234, unp_234, e], fun k _ => by rw [unp_235, unp_235, e], fun k _ => by rw [unp_222, unp_222, e], fun k _ => by rw [unp_223, unp_223, e], fun k _ => by rw [unp_227, unp_227, e], fun k _ => by rw [unp_229, unp_229, e], fun k _ => by rw [unp_211, unp_211, e], fun k _ => by rw [unp_215, unp_215, e], fun k _ => by rw [unp_216, unp_216, e], fun k _ => by rw [unp_217, unp_217, e], fun k _ => by rw [unp_218, unp_218, e], fun k _ => by rw [unp_219, unp_219, e], fun k _ => by rw [unp_220, unp_220, e]⟩
theorem eqM_of {M M' : am_M} (e : ∀ a k, 205 ≤ a → ¬ sM a k → M' a k = M a k) : eqM M M' := ⟨e 205 8 (by omega) (by unfold sM; omega), e 205 9 (by omega) (by unfold sM; omega), e 205 10 (by omega) (by unfold sM; omega), e 205 37 (by omega) (by unfold sM; omega), e 205 39 (by omega) (by unfold sM; omega), e 205 41 (by omega) (by unfold sM; omega), e 205 45 (by omega) (by unfold sM; omega), e 205 51 (by omega) (by unfold sM; omega), e 205 54 (by omega) (by unfold sM; omega), e 214 0 (by omega) (by unfold sM; omega), fun k hk => e 206 k (by omega) (by unfold sM; omega), fun k hk => e 209 k (by omega) (by unfold sM; omega), fun k hk => e 210 k (by omega) (by unfold sM; omega), fun k hk => e 224 k (by omega) (by unfold sM; omega), fun k hk => e 232 k (by omega) (by unfold sM; omega), fun k hk => e 234 k (by omega) (by unfold sM; omega), fun k hk => e 235 k (by omega) (by unfold sM; omega), fun k hk => e 222 k (by omega) (by unfold sM; omega), fun k hk => e 223 k (by omega) (by unfold sM; omega), fun k hk => e 227 k (by omega) (by unfold sM; omega), fun k hk => e 229 k (by omega) (by unfold sM; omega), fun k hk => e 211 k (by omega) (by unfold sM; omega), fun k hk => e 215 k (by omega) (by unfold sM; omega), fun k hk => e 216 k (by omega) (by unfold sM; omega), fun k hk => e 217 k (by omega) (by unfold sM; omega), fun k hk => e 218 k (by omega) (by unfold sM; omega), fun k hk => e 219 k (by omega) (by unfold sM; omega), fun k hk => e 220 k (by omega) (by unfold sM; omega)⟩
theorem MI_of {M M' : am_M} {s : St} {c : Nat} (h : MI M s) (g : GI c s) (e : ∀ a k, 205 ≤ a → ¬ sM a k → M' a k = M a k) : MI M' s := by
  have h6 := g.n6
  have h4 := g.l4
  refine ⟨MTV_of h.tw (GT_bd g.t) (eqM_of e), ?_, fun i hi k hk => ?_, ?_, ?_, fun k hk => ?_, ?_, ?_, ?_, fun hk => MTV_of (h.kt hk) (GT_bd (g.kt hk)) (unp_of (funext fun k => e 238 k (by omega) (by unfold sM; omega))), fun k hk => ?_, fun k hk => ?_, fun k hk => ?_⟩
  · rw [e 205 5 (by omega) (by unfold sM; omega)]; exact h.pc
  · rw [e 207 _ (by omega) (by unfold sM; omega)]; exact h.pw i hi k hk
  · rw [e 205 7 (by omega) (by unfold sM; omega)]; exact h.th
  · rw [e 205 15 (by omega) (by unfold sM; omega)]; exact h.ln
  · rw [e 212 _ (by omega) (by unfold sM; omega)]; exact h.tp k hk
  · rw [e 205 35 (by omega) (by unfold sM; omega)]; exact h.fk
  · rw [e 205 36 (by omega) (by unfold sM; omega)]; exact h.fp
  · rw [e 205 60 (by omega) (by unfold sM; omega)]; exact h.kp
  · rw [e 213 _ (by omega) (by unfold sM; omega)]; exact h.wd k hk
  · rw [e 230 _ (by omega) (by unfold sM; omega)]; exact h.t0 k hk
  · rw [e 231 _ (by omega) (by unfold sM; omega)]; exact h.t1 k hk
theorem MI_fr {M M' : am_M} {s : St} {c : Nat} (h : MI M s) (g : GI c s) (e : Fc M M') : MI M' s := MI_of h g (fun a k ha _ => by rw [e a ha])
end
