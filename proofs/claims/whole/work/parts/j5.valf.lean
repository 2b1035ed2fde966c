/-! BOTH MACHINES: a VALUE is begun, while a call is pending -/
section VF5
variable {E : SENV} {K : CXT} {a b h sp sc i el ev s base th c : Nat} {x x1 : Int} {wA wM : Wd} {A : ACT}
/-- one control more -/
def valK (K : CXT) : CXT := (K.1, K.2.1, fun k => if k = 4 then K.2.2 4 + 1 else K.2.2 k)
theorem JPS.valf (hE : EOKS E) (H : JPS E K el a b ev h sp sc x i wA wM) (hA : K.1[K.2.2 0]? = some A) (hon : aOn A) (hb : b < 60000) {Y Z : Int32} (ho : opW (dM E) b 18 (Int32.ofNat s) Y Z) (h87 : gi wM 87 ev = Int32.ofNat base) (hq : base + s + 1 < 200000) (v1 : gl wM 83 (base + s) = Int64.ofNat th) (v2 : gl wM 83 (base + s + 1) = Int64.ofNat (K.2.2 0)) (hth : th < 6000) (hcd : gi (dM E) 47 th = Int32.ofNat c) (hc9 : c ≤ 60000) (hcp : K.2.2 4 + 1 ≤ 4 * K.2.2 3 + 4) (L : LOWD K h sp (K.2.2 3) (K.2.2 4)) (hx : x + 1 ≤ x1 ∧ x1 ≤ KK)
    (g : ∀ uM, JS E (valK K) el a c h sp sc x1 (i + 1) wA uM → CTM (K.2.2 4) (b + 1) ev 0 (Int32.ofNat (base + s)) (K.2.2 3) uM → OFF (fun k j => (k = 0 ∧ (j = 127 ∨ j = 128 ∨ j = 129)) ∨ (92 ≤ k ∧ k ≤ 97 ∧ j = K.2.2 4)) uM wM → GD E (i + 1) wA uM) : GD E i wA wM := by
  have M := H.mk
  obtain ⟨w1, w2, w3, J⟩ := id H
  obtain ⟨C, MJ⟩ := J.cka hA
  have hdp := J.dep.1
  obtain ⟨u, u1, u2, u3, u4⟩ := rm_valf M hb ho h87 hq v1 v2 hth MJ.2.2.2.2.2.2.2.2.2.2.2.1 hcd hc9 (by omega)
  obtain ⟨_, pr, de, fu, j1, j2, j3, j4, j5, j6, j7, j8, j9, j10, ⟨j11, j12, j13, j14, j15, j16, j17⟩, o1, o2⟩ := id J
  have O2 : OFF (fun k j => (k = 0 ∧ (j = 127 ∨ j = 128 ∨ j = 129)) ∨ (92 ≤ k ∧ k ≤ 97 ∧ j = K.2.2 4)) u (si wM 0 129 (Int32.ofNat (K.2.2 0))) := fun k j hk => by
    obtain ⟨e1, e2⟩ := u4 k j hk
    exact ⟨e1.trans (gi_si1 (by omega)).symm, e2.trans (gl_si _ _ _ _ _ _).symm⟩
  have O : OFF (PTM sp (K.2.2 4)) u (si wM 0 129 (Int32.ofNat (K.2.2 0))) := O2.mono fun k j p => by unfold PTM; omega
  have JJ : JS E (valK K) el a c h sp sc x1 (i + 1) wA u := by
    refine JS.tf (K' := valK K) (A := A) J L rfl rfl ⟨rfl, rfl, rfl⟩ (OFF.rf : OFF (PTA h (K.2.2 3)) wA wA) O (PSD.eq rfl rfl) hA hon C j4 u2 (j6.off O2 (fun k j p => by omega)) (fun pr0 de0 fu0 T => T.uq j4) ⟨Nat.le_refl _, Nat.le_refl _, Nat.le_refl _, Nat.le_succ _, j11, hcp, j15⟩ ⟨by omega, hx.2⟩
  exact JS.gov hE (show TKS 0 wA wA from rfl) (Nat.zero_le 1) (SPS.one (M.runs ho hb (by decide)) u1) (by omega) JJ (g u JJ u3 u4)
end VF5
