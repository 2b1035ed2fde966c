/-! BOTH MACHINES: switches -/
section SX
/-- static: switches -/
def SWT (E : SENV) : Prop := ∀ (s : Nat) (r : List Nat) (k p : Nat), UPM (eNo E 5 6) (vM E) (s :: r) → own E s p → p < 1200 → k ∈ eSL E s → gi (vM E) 19 k = 5 → ∃ n e0 ad, gl (cA E) 41 (k + 1) = Int64.ofNat ad ∧ ad < eNo E 5 0 ∧ gl (cA E) 41 ad = Int64.ofNat n ∧ n ≤ 24000 ∧ gi (dM E) 57 k = Int32.ofNat n ∧ gi (dM E) 56 k = Int32.ofNat e0 ∧ e0 + n ≤ 24000 ∧
  ∀ j, j < n → ∃ g c a1 b1 K nn, SWC (cA E) (eNo E 5 0) j (ad + 1) g ∧ gi (dM E) 58 (e0 + j) = Int32.ofNat c ∧ NOD E (s :: r) p K 2 nn (g + 1) a1 c b1 ∧ gl (cA E) 41 a1 = wdC 46 0 0 ∧ opW (dM E) b1 17 0 0 0 ∧ NDX (vM E) K 2 nn ≤ 502
variable {E : SENV} {K : CXT} {Lim k n p nx a a1 b b1 y tk h sp sc i el j : Nat} {x : Int} {wA wM uA uM : Wd} {stk : List Nat} {ty : Int32} {A B : ACT} {v : Int64}
theorem UPM.suf {c : Nat} {w : Wd} {r : List Nat} : ∀ {l : List Nat}, UPM c w l → r <:+ l → UPM c w r := by
  intro l
  induction l with
  | nil =>
    intro h hs
    rw [List.suffix_nil.mp hs]; exact trivial
  | cons a l ih =>
    intro h hs
    rcases List.suffix_cons_iff.mp hs with e | e
    · rw [e]; exact h
    · exact ih h.2.2 e
theorem JS.swi (hE : EOKS E) (hS : SYS E) (hX : ∀ L, L < Lim → ALLX E L) (hT : SWT E) {ad : Nat} {X Y : Int32} (H : JS E K (K.2.2 5) a b (h + 3) (sp + 1) sc x i wA wM) (hA : K.1[K.2.2 0]? = some A) (hon : aOn A) (hw : gl (cA E) 41 a = wdC 49 0 0) (ho : opW (dM E) b 21 X Y 0) (u0 : gl wA 51 h = v) (u3 : gl wM 85 sp = v) (v1 : gl wA 51 (h + 1) = Int64.ofNat ad) (v2 : gl wA 51 (h + 2) = Int64.ofNat (aF B)) (hk : gl (cA E) 41 (k + 1) = Int64.ofNat ad) (had9 : ad < 40000) (hB : K.1[j]? = some B) (hBo : aOn B) (hV : SWV E k B)
    (hSM : ∀ q, SWM (si wM 0 128 q) (K.2.2 0) X Y k j) (ha : a < eNo E 5 0) (hb : b < 60000) (L : LOWD K h sp (K.2.2 3) (K.2.2 4)) (hsp : sp ≤ h) (hH : HND E K Lim) (hL : eNo E 5 5 ≤ Lim + sc) (hh : h + 3 ≤ 502 * (K.2.2 3 + 1)) (hxa : ∀ (j : Nat) (B : ACT), K.1[j]? = some B → x + 1 ≤ aX B) (hxk : x + 1 ≤ KK)
    (hc : CTG E K (PL E) 2 (a + 1) (b + 1) h sp sc (x + 1) wA wM) : GD E i wA wM := by
  have hd := H.dep
  have N := H.num hA
  obtain ⟨n1, n2, n3, n4, n5⟩ := id N
  obtain ⟨C, M⟩ := H.cka hA
  obtain ⟨_, pr, de, fu, j1, j2, j3, j4, j5, j6, j7, j8, j9, j10, ⟨j11, j12, j13, j14, j15, j16, j17⟩, o1, o2⟩ := id H
  obtain ⟨_, _, _, _, _, _, t7, t8, t9, t10, t11⟩ := id j4
  obtain ⟨hk2, hk5, s, hs1, hs2, hs3⟩ := hV
  obtain ⟨r, hr⟩ := suf_in hs1
  have hpB := H.pro hS hB hBo
  have hU : UPM (eNo E 5 6) (vM E) (s :: r) := UPM.suf ((H.act hB).2.2.2.2.2.2.2 hBo).2.2.2.2.2.2.2.1 hr
  obtain ⟨n, e0, ad', w1, w2, w3, w4, w5, w6, w7, w8⟩ := hT s r k (aP B) hU hs2 hpB.2.1 hs3 hk5
  have hN := hE.1
  have : ad' = ad := (eq64 (by omega) (by omega)).mp (w1.symm.trans hk)
  subst this
  have hkk : k < 5000 := by
    obtain ⟨kd, m, C0, c1, c2, c3, c4, _⟩ := hS
    omega
  have hfB := H.frm hB hBo
  have hjB := (H.act hB).2.2.2.2.2.2.1
  obtain ⟨s0, s6, s1, sg⟩ := k_swi C j4 ha hw v1 v2 w2 w3 (by omega) (by have := C.2.2.2.2.2.2.2.2.2.1; omega)
  have M1 := M.nx (b1 := b + 1) (by omega)
  have Q0 : OFF (fun k j => k = 0 ∧ (j = 128 ∨ j = 130)) (si (si wM 0 128 (Int32.ofNat (b + 1))) 0 130 (Int32.ofNat sp)) wM := OFF.tr (OFF.si (by omega)) (OFF.si (by omega))
  have M2 : MK (dM E) (b + 1) (K.2.2 0) sp (K.2.2 4) K.1.length (K.2.2 2) (K.2.2 5) (K.2.2 3) (si (si wM 0 128 (Int32.ofNat (b + 1))) 0 130 (Int32.ofNat sp)) := M1.ps (s0 := 0) (OFF.si (Or.inl ⟨rfl, Or.inr rfl⟩)) (by rw [gi_si1 (by omega), gi_si0]) (gi_si0 _ _ _ _) (by omega) (by omega)
  have T2 : TLM (eNo E 5 5) sc pr de fu (si (si wM 0 128 (Int32.ofNat (b + 1))) 0 130 (Int32.ofNat sp)) := j6.off Q0 (fun k j p => by omega)
  have st : fX12_step wM = fX12_aimed_54 v (Int32.ofNat k) (Int32.ofNat j) (si (si wM 0 128 (Int32.ofNat (b + 1))) 0 130 (Int32.ofNat sp)) := by
    rw [rm_swi (n := 0) M hb ho]
    exact aim_go M1 (hSM _) (by omega) (by rw [gl_si]; exact u3)
  have hR := M.runs ho hb (by decide)
  generalize si (si wM 0 128 (Int32.ofNat (b + 1))) 0 130 (Int32.ofNat sp) = zM at Q0 M2 T2 st
  rw [u0] at s1 sg
  have hpr : ∀ {u w : Wd}, OFF PEN u wA → OFF PEM w zM → ∀ j, j < pr → j < 500 → gl u 55 j = gl w 86 j := fun {u w} OA OM j p1 p2 => by
    rw [(OA 55 j (by unfold PEN; omega)).2, (OM 86 j (by unfold PEM; omega)).2, (Q0 86 j (by omega)).2]; exact j7 j p1 p2
  have oA : ∀ {u : Wd}, OFF PEN u wA → OFF PZA u wA := fun {u} O => O.mono fun k j p => by unfold PEN at p; unfold PZA; omega
  have oM : ∀ {u : Wd}, OFF PEM u zM → OFF PZR u wM := fun {u} O => OFF.tr (O.mono fun k j p => by unfold PEM at p; unfold PZR; omega) (Q0.mono fun k j p => by unfold PZR; omega)
  by_cases hs : sc = eNo E 5 5
  · obtain ⟨u, u1, u2, u4, u5⟩ := s0 hs
    obtain ⟨y, y1, y2, y3, y4⟩ := am0 (i := v) (x := Int32.ofNat k) (y := Int32.ofNat j) T2 hs
    exact H.fin hE (k := 1) (by decide) (TKS.one hd.2.2.2.2 u1) (SPS.one hR (st.trans y1)) (by omega) u2 (Or.inl ⟨y2, rfl⟩) u4 y3 (hpr u5 y4) (oA u5) (oM y4)
  have hs' : sc < eNo E 5 5 := by omega
  have ha20 := hE.2.1
  by_cases h6 : K.2.2 3 = 60
  · obtain ⟨u, u1, u2, u4, u5⟩ := s6 hs' h6
    rw [h6] at M2
    obtain ⟨y, y1, y2, y3, y4⟩ := am6 (i := v) (x := Int32.ofNat k) (y := Int32.ofNat j) M2 T2 hs' ha20
    exact H.fin hE (k := 1) (by decide) (TKS.one hd.2.2.2.2 u1) (SPS.one hR (st.trans y1)) (by omega) u2 (Or.inr (Or.inl ⟨y2, by decide, by decide⟩)) u4 y3 (hpr u5 y4) (oA u5) (oM y4)
  by_cases hr1 : v < 1 ∨ Int64.ofNat n < v
  · obtain ⟨u, u1, u2, u4, u5⟩ := s1 hs' (by omega) hr1
    obtain ⟨y, y1, y2, y3, y4⟩ := am_1 (i := v) (k := k) (n := n) (e := j) M2 T2 hs' ha20 (by omega) (by omega) hkk w5 (by omega) hr1
    exact H.fin hE (k := 1) (by decide) (TKS.one hd.2.2.2.2 u1) (SPS.one hR (st.trans y1)) (by omega) u2 (Or.inr (Or.inl ⟨y2, by decide, by decide⟩)) u4 y3 (hpr u5 y4) (oA u5) (oM y4)
  have hv1 : 1 ≤ v := nl64.mp (fun c => hr1 (Or.inl c))
  have hv2 : v ≤ Int64.ofNat n := nl64.mp (fun c => hr1 (Or.inr c))
  obtain ⟨q, hq1, hq2⟩ : ∃ q, v = Int64.ofNat (q + 1) ∧ q + 1 ≤ n := by
    have hv0 : 0 ≤ v := by
      rw [Int64.le_iff_toInt_le] at hv1 ⊢
      have e0 : (0 : Int64).toInt = 0 := by decide
      have e1 : (1 : Int64).toInt = 1 := by decide
      rw [e1] at hv1
      rw [e0]
      omega
    have e := nat64 hv0
    rw [Int64.le_iff_toInt_le] at hv1 hv2
    rw [ti64 (by omega)] at hv2
    have e1 : (1 : Int64).toInt = 1 := by decide
    rw [e1] at hv1
    refine ⟨v.toInt.toNat - 1, ?_, by omega⟩
    rw [show v.toInt.toNat - 1 + 1 = v.toInt.toNat by omega]
    exact e
  obtain ⟨g, c, a1, b1, KN, nn, z1, z2, z3, z4, z5, z6⟩ := w8 q (by omega)
  have zle := z3.le hS (by omega)
  obtain ⟨z31, z32, z33, z34, z35, z36, z37⟩ := id z3
  obtain ⟨u, u1, u2, u4, u52, u53, u54, u5⟩ := sg q g hs' (by omega) hq1 hq2 z1
  obtain ⟨y, y1, y2, y3, y4, y5⟩ := am_ok (k := k) (n := n) (e := j) (e0 := e0) (c := c) (j := q) M2 T2 hs' ha20 (by omega) (by omega) (by omega) hkk w5 (by omega) (by omega) hjB w6 z2 (by omega) w7
  rw [hq1] at st
  have OA : OFF (PTA h (K.2.2 3)) u wA := u5.mono fun k j p => by unfold PUS at p; unfold PTA; omega
  have OM : OFF (PTM sp (K.2.2 4)) y wM := OFF.tr (y5.mono fun k j p => by unfold PUM at p; unfold PTM; omega) (Q0.mono fun k j p => by unfold PTM; omega)
  have J : JS E (useK K j) (K.2.2 5) (g + 1) c h sp (sc + 1) (x + 1 - KK) (i + 1) u y := by
    refine JS.tf (A := B) H (fun j B hB => L j B hB) rfl rfl ⟨rfl, rfl, rfl⟩ OA OM (j4.psd u4 (by omega)) hB hBo u2 u4 y2 y3 (fun pr0 de0 fu0 T => T.uq j4) ?_ ⟨?_, by omega⟩
    · refine ⟨Nat.le_refl _, Nat.le_refl _, Nat.le_succ _, Nat.le_succ _, hsp, ?_, ?_⟩
      · show K.2.2 4 + 1 ≤ 4 * (K.2.2 3 + 1) + 4
        omega
      · show K.1.length ≤ K.2.2 3 + 1 + 1
        omega
    · have e : (KK : Int) * ((sc + 1 : Nat) : Int) = KK * sc + KK := by
        have := Int.mul_add (KK : Int) sc 1
        rw [Int.mul_one] at this
        exact this
      rw [e]; omega
  refine J.go hE (TKS.one hd.2.2.2.2 u1) (SPS.one hR (st.trans y1)) (by omega) ?_
  have hHL : HND E (useK K j) (Lim - 1) := (HND.use (j := j) hH).le (by omega)
  have hroom : h + NDX (vM E) KN 2 nn ≤ 502 * ((useK K j).2.2 3 + 1) := by
    show h + _ ≤ 502 * (K.2.2 3 + 1 + 1)
    omega
  have L1 : LOWD K (h + 2) (sp + 2) (K.2.2 3) (K.2.2 4) := fun j B hB => by have := L j B hB; omega
  have hsub : ∀ s' ∈ s :: r, s' ∈ aK B := fun s' hs' => hr.subset hs'
  have SS := NOD.sim (md := 2) (hX (Lim - 1) (by omega) KN) (by omega) z3
  refine SS (useK K j) B h sp (sc + 1) _ _ _ _ hB hBo hsub rfl J hHL (by omega) hroom (fun j B hB => by have := hxa j B hB; unfold KK at *; omega) (by unfold KK at *; omega) ?_
  intro yA yM sc' i' J' h1 hp hk'
  have e53 : gi yA 53 (K.2.2 3 + 1) = Int32.ofNat (a + 1) := (hk'.2.1 53 _ (by omega) (by omega) (Nat.le_refl _)).trans u53
  have e54 : gi yA 54 (K.2.2 3 + 1) = Int32.ofNat (aF A) := (hk'.2.1 54 _ (by omega) (by omega) (Nat.le_refl _)).trans u54
  have hp' : PL E (useK K j) h sp yA yM := hp
  refine JS.eus (h := h + 2) (sp := sp + 2) (x1 := x + 1) hE J' hB N hA hon L1 z4 z5 z36 ⟨z37, by omega⟩ e53 e54 (hk'.ctm y4) ⟨by unfold KK at *; omega, by omega⟩ (fun zA zM' JJ PA PM => ?_)
  exact hc zA zM' sc' _ JJ (by omega) (PL.mv (K := K) hp' PA PM) ((KEE.pt OA OM (j4.psd u4 (by omega))).tr ((hk'.le (Nat.le_refl _) (Nat.le_succ _) (Nat.le_refl _) (Nat.le_succ _)).tr (KEE.o48 PA PM)))
end SX
