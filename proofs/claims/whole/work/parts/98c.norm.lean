section
/-! the model's own row as the world's -/
theorem WG_W {c : Nat} {x : Cx} {W W' : Rw} (h : WG c x W) (hG : x.G ≤ 8) (e : ∀ k, k < 136 → W k = W' k) : WG c x W' := by
  refine ⟨⟨fun k hk => ?_, fun k hk => ?_, fun k hk => ?_, fun k hk => ?_, fun k hk => ?_, ?_⟩, ⟨fun k q1 q2 => ?_, fun k q1 q2 => ?_, fun k q1 q2 => ?_, fun k q1 q2 => ?_, fun k q1 q2 => ?_, fun t g q1 q2 q3 => ?_⟩, ?_⟩
  · rw [← e _ (by omega)]; exact h.ok.lo k hk
  · rw [← e _ (by omega)]; exact h.ok.ru k hk
  · rw [← e _ (by omega)]; exact h.ok.pr k hk
  · rw [← e _ (by omega)]; exact h.ok.st k hk
  · rw [← e _ (by omega)]; exact h.ok.pu k hk
  · obtain ⟨q, q1, q2⟩ := h.ok.wr; exact ⟨q, by rw [← e _ (by omega)]; exact q1, q2⟩
  · rw [← e _ (by omega)]; exact h.z.h k q1 q2
  · rw [← e _ (by omega)]; exact h.z.t k q1 q2
  · rw [← e _ (by omega)]; exact h.z.l k q1 q2
  · rw [← e _ (by omega)]; exact h.z.s k q1 q2
  · rw [← e _ (by omega)]; exact h.z.r k q1 q2
  · rw [← e _ (by omega)]; exact h.z.st t g q1 q2 q3
  · obtain ⟨q, q1, q2⟩ := h.d; exact ⟨q, by rw [← e _ (by omega)]; exact q1, q2⟩
def tW (t : Tn) (W B : Rw) : Tn := tK (tX t t.x W) B
theorem CT_tW {b : Nat} {M : am_M} {t : Tn} {W B : Rw} (h : CT b M t) (e1 : ∀ k, k < 136 → t.W k = W k) (e2 : ∀ k, k < 600 → t.B k = B k) : CT b M (tW t W B) := ⟨CW_W h.w e1, fun k hk => (h.bk k hk).trans (e2 k hk), h.lw, h.dn, h.tr, h.bn, h.pn, h.pr, h.wn, h.we, h.rt, h.sn, h.sw, h.sv⟩
theorem MT_tW {M : am_M} {t : Tn} {W B : Rw} (h : MTV M t) (e1 : ∀ k, k < 136 → t.W k = W k) (e2 : ∀ k, k < 600 → t.B k = B k) : MTV M (tW t W B) := ⟨fun k hk => (h.w k hk).trans (e1 k hk), fun k hk => (h.bk k hk).trans (e2 k hk), h.mx, h.lw, h.dn, h.tr, h.bn, h.pn, h.pr, h.wn, h.wy, h.rt, h.sn, h.sw, h.sv⟩
theorem GT_tW {c : Nat} {t : Tn} {W B : Rw} (h : GT c t) (hw : WG c t.x W) : GT c (tW t W B) := ⟨h.L6, h.G8, h.T10, h.up, h.u0, h.ok, h.dk, h.tk, h.b16, h.p14, h.pr, h.w14, h.we, h.rt, h.r0, h.s8, h.sw, h.sv, hw⟩
theorem nrm {c : Nat} {Mi M : am_M} {s : St} (hC : CI Mi M s) (hM : MI M s) (hG : GI c s) : ∃ s0, CI Mi M s0 ∧ MI M s0 ∧ GI c s0 ∧ s0.t.W = M 206 ∧ s0.t.B = M 211 := by
  have e1 : ∀ k, k < 136 → s.t.W k = M 206 k := fun k hk => (hM.tw.w k hk).symm
  have e2 : ∀ k, k < 600 → s.t.B k = M 211 k := fun k hk => (hM.tw.bk k hk).symm
  refine ⟨sT s (tW s.t (M 206) (M 211)), ⟨CT_tW hC.tw e1 e2, hC.pc, hC.pq, hC.pw, hC.ln, hC.tp, hC.fk, hC.fp, hC.kp, hC.kt, hC.lo⟩, ⟨MT_tW hM.tw e1 e2, hM.pc, hM.pw, hM.th, hM.ln, hM.tp, hM.fk, hM.fp, hM.kp, hM.kt, hM.wd, hM.t0, hM.t1⟩, ⟨GT_tW hG.t (WG_W hG.t.wg hG.t.G8 e1), hG.n6, hG.q6, hG.pw, hG.l4, hG.tp, hG.kt⟩, rfl, rfl⟩
theorem Sts_of {c : Nat} {Mi M : am_M} {s : St} (hC : CI Mi M s) (hG : GI c s) : Sts M s.t.l s.t.x := ⟨hC.tw.lw, hG.t.ok, hG.t.L6, hG.t.G8, hG.t.T10, hG.t.up⟩
theorem KC_of {Mi M : am_M} {s : St} (hC : CI Mi M s) : KC 18 M M s.t.x s.t.W s.t.B := ⟨hC.tw.w, hC.tw.bk, fun _ _ => rfl⟩
theorem Stm_of {c : Nat} {M : am_M} {s : St} (hM : MI M s) (hG : GI c s) : Stm M s.t.l s.t.x false := ⟨hM.tw.lw, hG.t.ok, hM.tw.mx, hG.t.L6, hG.t.G8, hG.t.T10, hG.t.up, hM.th⟩
theorem KM_of {M : am_M} {s : St} (eW : s.t.W = M 206) (eB : s.t.B = M 211) : KM M M s.t.W s.t.B := ⟨eW.symm, eB.symm, fun _ _ _ _ _ => rfl⟩
/-- after a day, or part of it -/
theorem CI_KC {Mi M M' : am_M} {s : St} {W B : Rw} (hC : CI Mi M s) (h : KC 18 M M' s.t.x W B) : CI Mi M' (sT s (tW s.t W B)) := by
  have e : ∀ a k, ¬ chg 18 a → M' a k = M a k := fun a k ha => by rw [h.fr a ha]
  have hx : CT 17 M' (tX s.t s.t.x W) ∨ True := Or.inr trivial
  refine CI_T hC ⟨h.cw, h.bk, CLw_of hC.tw.lw (fun a h1 h2 => h.fr a (by unfold chg; omega)), CDn_of hC.tw.dn (h.fr _ (by unfold chg; omega)) (h.fr _ (by unfold chg; omega)), CTr_of hC.tw.tr (h.fr _ (by unfold chg; omega)) (h.fr _ (by unfold chg; omega)), ?_, ?_, fun k hk => ?_, ?_, fun k hk => ?_, fun k hk => ?_, ?_, fun k hk => ?_, fun k hk => ?_⟩ rfl (fun a k h1 h2 h3 => e a k (by unfold chg; unfold sC at h3; omega))
  · rw [e _ _ (by unfold chg; omega)]; exact hC.tw.bn
  · rw [e _ _ (by unfold chg; omega)]; exact hC.tw.pn
  · rw [e _ _ (by unfold chg; omega)]; exact hC.tw.pr k hk
  · rw [e _ _ (by unfold chg; omega)]; exact hC.tw.wn
  · rw [e _ _ (by unfold chg; omega), e _ _ (by unfold chg; omega)]; exact hC.tw.we k hk
  · rw [e _ _ (by unfold chg; omega)]; exact hC.tw.rt k hk
  · rw [e _ _ (by unfold chg; omega)]; exact hC.tw.sn
  · rw [e _ _ (by unfold chg; omega)]; exact hC.tw.sw k hk
  · rw [e _ _ (by unfold chg; omega)]; exact hC.tw.sv k hk
theorem Fc_KC {M M' : am_M} {w : Nat} {x : Cx} {W B : Rw} (h : KC w M M' x W B) (hw : okw w) : Fc M M' := fun a ha => h.fr a (by unfold okw at hw; unfold chg; omega)
theorem eqM_KM {M M' : am_M} {W B : Rw} (h : KM M M' W B) (hW : M 206 = W) (hB : M 211 = B) : ∀ a, a ≠ 225 → a ≠ 226 → M' a = M a := by
  intro a h1 h2
  by_cases e1 : a = 206
  · rw [e1, h.w, hW]
  · by_cases e2 : a = 211
    · rw [e2, h.b, hB]
    · exact h.fr a e1 e2 h1 h2
theorem MI_KM {c : Nat} {M M' : am_M} {s : St} {W B : Rw} (hM : MI M s) (hG : GI c s) (h : KM M M' W B) : MI M' (sT s (tW s.t W B)) := by
  have e : ∀ a, a ≠ 206 → a ≠ 211 → a ≠ 225 → a ≠ 226 → M' a = M a := h.fr
  have hX : MTV M' (tW s.t W B) := by
    refine ⟨fun k _ => by rw [h.w]; rfl, fun k _ => by rw [h.b]; rfl, ⟨?_, ?_, ?_, fun k hk => ?_, fun k hk => ?_, fun k hk => ?_⟩, MLw_of hM.tw.lw (fun a h1 h2 => e a (by omega) (by omega) (by omega) (by omega)), ⟨?_, fun k hk => ?_, fun k hk => ?_, fun k hk => ?_, fun k hk => ?_⟩, ⟨?_, fun k hk => ?_, fun k hk => ?_, fun k hk => ?_, fun k hk => ?_⟩, ?_, ?_, fun k hk => ?_, ?_, fun p q hp hq => ?_, fun k hk => ?_, ?_, fun k hk => ?_, fun k hk => ?_⟩
    · rw [e 205 (by decide) (by decide) (by decide) (by decide)]; exact hM.tw.mx.fL
    · rw [e 205 (by decide) (by decide) (by decide) (by decide)]; exact hM.tw.mx.fG
    · rw [e 205 (by decide) (by decide) (by decide) (by decide)]; exact hM.tw.mx.fT
    · rw [e 209 (by decide) (by decide) (by decide) (by decide)]; exact hM.tw.mx.vo k hk
    · rw [e 210 (by decide) (by decide) (by decide) (by decide)]; exact hM.tw.mx.ba k hk
    · rw [e 224 (by decide) (by decide) (by decide) (by decide)]; exact hM.tw.mx.up k hk
    · rw [e 205 (by decide) (by decide) (by decide) (by decide)]; exact hM.tw.dn.n
    · rw [e 222 (by decide) (by decide) (by decide) (by decide)]; exact hM.tw.dn.day k hk
    · rw [e 222 (by decide) (by decide) (by decide) (by decide)]; exact hM.tw.dn.kd k hk
    · rw [e 222 (by decide) (by decide) (by decide) (by decide)]; exact hM.tw.dn.wo k hk
    · rw [e 222 (by decide) (by decide) (by decide) (by decide)]; exact hM.tw.dn.mn k hk
    · rw [e 205 (by decide) (by decide) (by decide) (by decide)]; exact hM.tw.tr.n
    · rw [e 223 (by decide) (by decide) (by decide) (by decide)]; exact hM.tw.tr.day k hk
    · rw [e 223 (by decide) (by decide) (by decide) (by decide)]; exact hM.tw.tr.wo k hk
    · rw [e 223 (by decide) (by decide) (by decide) (by decide)]; exact hM.tw.tr.mn k hk
    · rw [e 223 (by decide) (by decide) (by decide) (by decide)]; exact hM.tw.tr.gd k hk
    · rw [e 205 (by decide) (by decide) (by decide) (by decide)]; exact hM.tw.bn
    · rw [e 205 (by decide) (by decide) (by decide) (by decide)]; exact hM.tw.pn
    · rw [e 227 (by decide) (by decide) (by decide) (by decide)]; exact hM.tw.pr k hk
    · rw [e 205 (by decide) (by decide) (by decide) (by decide)]; exact hM.tw.wn
    · rw [e 232 (by decide) (by decide) (by decide) (by decide)]; exact hM.tw.wy p q hp hq
    · rw [e 229 (by decide) (by decide) (by decide) (by decide)]; exact hM.tw.rt k hk
    · rw [e 205 (by decide) (by decide) (by decide) (by decide)]; exact hM.tw.sn
    · rw [e 234 (by decide) (by decide) (by decide) (by decide)]; exact hM.tw.sw k hk
    · rw [e 235 (by decide) (by decide) (by decide) (by decide)]; exact hM.tw.sv k hk
  exact MI_T hM hG hX (fun a k h1 h2 h3 => by rw [e a (by unfold rT at h3; omega) (by unfold rT at h3; omega) (by unfold sM at h2; omega) (by unfold sM at h2; omega)])
theorem Fm_KM {M M' : am_M} {W B : Rw} (h : KM M M' W B) : Fm M M' := fun a ha => h.fr a (by omega) (by omega) (by omega) (by omega)
end
