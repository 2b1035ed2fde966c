/-! BOTH MACHINES: from CALL to behind it -/
section LA0
variable {E : SENV} {K : CXT} {Lim p nx a a1 b b1 b2 h sp sc i el S k nf ff y th a0 b0 q c s tp mt lk dp cp Z fL : Nat} {x x1 : Int} {wA wM uA uM zA zM : Wd} {A B N L : ACT} {stk : List Nat} {ty : Int32} {ax : Int} {t : Int32}
theorem CLL.body (hE : EOKS E) (hS : SYS E) (hBod : BOD E Lim) (hP : PNO E K (eNo E 3 p) (pndA K p lk h sp zA zM)) (H : PEND E K (eNo E 3 p) (pndA K p lk h sp zA zM) a (eNo E 8 p) (h + wsum E ff nf + 2) sp sc x i wA wM) (hA : K.1[K.2.2 0]? = some A) (hon : aOn A) (hp9 : p < eNo E 5 3) (hpp : PRF E p) (hnf : gi (vM E) 31 p = Int32.ofNat nf) (hff : gi (vM E) 32 p = Int32.ofNat ff) (hn : nf < 100000 ∧ ff < 100000) (hL : K.1[lk]? = some L) (hLo : aOn L) (hCab : CAB E L p) (hpL : aP L < 1200) (hsp : sp ≤ h)
    (hw : gl (cA E) 41 a = wdC 42 0 0) (ha : a < eNo E 5 0) (v1 : gl wA 51 (h + wsum E ff nf) = Int64.ofNat (eNo E 0 p)) (v2 : gl wA 51 (h + wsum E ff nf + 1) = Int64.ofNat (aF L)) (hF : ∀ q, q < nf → FWD E K ff h q wA wM) (hz : gl wM 83 (K.2.2 2) = 0) (low : LOWD K h sp (K.2.2 3) (K.2.2 4)) (hN : NUM K A) (hH : HND E K Lim) (hLm : eNo E 5 5 ≤ Lim + sc) (hroom : h + 2 ≤ 502 * (K.2.2 3 + 1)) (hC : CTM (K.2.2 4) b0 (K.2.2 0) 0 t (K.2.2 3) wM) (hb0 : b0 ≤ 60000) (hxa : ∀ (j : Nat) (B : ACT), K.1[j]? = some B → x + 160000 ≤ aX B) (hxk : x + 160000 ≤ KK)
    (g : ∀ uA uM sc' i', JS E K (K.2.2 5) (a + 1) b0 (h + 1) (sp + (if t = 1 then 1 else 0)) sc' (x + 160000) i' uA uM → sc ≤ sc' → (t = 1 → gi (vM E) 20 (nd (vM E) 29 p) ≠ 0 → gl uA 51 h = gl uM 85 sp ∧ VT (gi (vM E) 20 (nd (vM E) 29 p)) (gl uA 51 h)) → KEE h (K.2.2 3) sp (K.2.2 4) wA wM uA uM → GD E i' uA uM) : GD E i wA wM := by
  have hEN := hE.1
  have hpp' := hpp
  obtain ⟨nf', ff', c, ⟨p1, p2, p3, p4, p5, p6, p7⟩, ⟨q1, q2, q3, q4, q5⟩, ⟨r1, r2, r3, r4, r5, r6⟩, hfm, ⟨s1, s2, s3, s4, s5, s6, s7, s8⟩, ⟨t1, t2, t3, t4, t5⟩⟩ := hpp'
  have en : nf' = nf := (eq_iN (by omega) (by omega)).mp (p3.symm.trans hnf)
  have hC1 : eNo E 5 2 ≤ 4100 := by
    obtain ⟨kd, m, C, c1, c2, c3, c4, _⟩ := hS
    omega
  have ef : ff' = ff := (eq_iN (by omega) (by omega)).mp (p4.symm.trans hff)
  subst en
  subst ef
  have enf : nd (vM E) 31 p = nf' := by unfold nd; rw [hnf]; exact tc_iN (by omega)
  have eff : nd (vM E) 32 p = ff' := by unfold nd; rw [hff]; exact tc_iN (by omega)
  have hK := hP.2.2.2.2.2.2.1
  have hd60 : K.2.2 3 + 1 ≤ 60 := H.2.2.2.dep.1
  have hp0 : p < 1200 := by
    obtain ⟨kd, m, C, c1, c2, c3, c4, _⟩ := hS
    omega
  refine JS.cll (ax := x + 160000) (x1 := x + 1) hE hS hP H hA hon hpp hnf hff hn hL hLo hCab hpL hsp hw ha v1 v2 hF hz hxk ⟨by omega, by omega⟩ (fun j B hB => ⟨(low j B hB).1, (low j B hB).2.1⟩) (fun uA J u53 u54 OA => ?_)
  -- LABELS
  have hHn : HND E (onK E K p nf' ff' lk (aF L) h sp (eNo E 1 p) (eNo E 3 p) uA wM (x + 160000)) Lim := by
    refine HND.app (K := K) (N := onA E K p lk h sp uA wM (x + 160000)) hH rfl (fun _ _ _ _ _ _ g => Or.inl g) (fun _ s r l g1 g2 g3 g4 => ?_)
    have g1' : (s :: r) <:+ (eNo E 6 p :: eDS E p) := g1
    have g2' : own E s p := g2
    have es : s = eNo E 6 p := by
      rcases List.mem_cons.mp (g1'.subset List.mem_cons_self) with z | z
      · exact z
      · exact absurd g2' (s6 s z)
    subst es
    obtain ⟨q, hq, e⟩ := s4 l g3
    have := (hfm q hq).1
    rw [← e] at this
    exact absurd (this.symm.trans g4) (by decide)
  have hkv : kvO E (onA E K p lk h sp uA wM (x + 160000)) (eNo E 6 p :: eDS E p) = K.2.2 5 := by
    have h1 : kvO E (onA E K p lk h sp uA wM (x + 160000)) (eNo E 6 p :: eDS E p) = kvO E (onA E K p lk h sp uA wM (x + 160000)) (eDS E p) := by
      show (if own E (eNo E 6 p) p then (if gi (vM E) 17 (eNo E 6 p) = -1 then kvO E _ (eDS E p) else _) else _) = _
      rw [if_pos s2, if_pos s3]
    rw [h1]
    obtain ⟨_, _, _, s, r, hds, _⟩ := hCab
    rw [hds]
    show (if own E s p then _ else K.2.2 5) = _
    rw [if_neg (s6 s (by rw [hds]; exact List.mem_cons_self))]
  have hFr : FRE (onK E K p nf' ff' lk (aF L) h sp (eNo E 1 p) (eNo E 3 p) uA wM (x + 160000)) (onA E K p lk h sp uA wM (x + 160000)) (6 + wsum E (nd (vM E) 32 p) (nd (vM E) 31 p)) (1 + 2 * nd (vM E) 31 p) (eNo E 10 p) (eNo E 10 p) := by
    rw [enf, eff]
    intro k x' q ty va vm gg
    show (k ≤ 2 → x' < K.2.2 1 + (6 + wsum E ff' nf')) ∧ (k ≠ 2 → q < 1048576 → q < K.2.2 2 + (1 + 2 * nf') ∨ _)
    rcases gg with gg | gg
    · obtain ⟨b1, b2, b3, b4⟩ := hK.1.2.2 _ _ _ _ _ _ gg
      exact ⟨fun hk => by have := (b2 hk).1; omega, fun hk hq => Or.inl (by have := b3 hk; omega)⟩
    · obtain ⟨c1, c2, c3, c4, c5, c6⟩ := gg.at_
      exact ⟨fun _ => by omega, fun hk _ => Or.inl (by have := c3 hk; omega)⟩
  have hxa' : ∀ (j : Nat) (B : ACT), (onK E K p nf' ff' lk (aF L) h sp (eNo E 1 p) (eNo E 3 p) uA wM (x + 160000)).1[j]? = some B → x + 1 + 4 * ((eNo E 7 p : Int) - ((eNo E 0 p + 2 : Nat) : Int)) ≤ aX B := fun j B hB => by
    rcases app_at (show (K.1 ++ [_])[j]? = some B from hB) with ⟨z, _⟩ | ⟨_, z⟩
    · have := hxa j B z; omega
    · subst z
      show _ ≤ x + 160000
      omega
  refine hBod p hCab.1 hp9 (onK E K p nf' ff' lk (aF L) h sp (eNo E 1 p) (eNo E 3 p) uA wM (x + 160000)) (onA E K p lk h sp uA wM (x + 160000)) sc (x + 1) (i + 1) uA wM at_last rfl ?_ rfl rfl ⟨rfl, rfl, rfl, rfl, hkv.symm⟩ hFr J hHn hLm ?_ hxa' (by omega) ?_ hxk ?_
  · show (K.1 ++ [_]).length = K.1.length + 1
    rw [List.length_append]; rfl
  · show h + 502 ≤ 502 * (K.2.2 3 + 1 + 1) ∧ K.2.2 4 + 1 + 1 ≤ 4 * (K.2.2 3 + 1) + 4
    have := hK.2.2.1
    omega
  · show x + 160000 ≤ x + 1 + KK
    unfold KK at *
    omega
  · intro yA yM sc' i' J' h1'
    have kk' : KEE h (K.2.2 3 + 1) sp (K.2.2 4 + 1) uA wM yA yM := (J'.act (j := K.1.length) (B := onA E K p lk h sp uA wM (x + 160000)) at_last).1.2.2.2.2.2.2.2
    have h1 : sc ≤ sc' := by
      obtain ⟨_, pr, de, fu, _, _, _, T, _⟩ := J
      obtain ⟨_, pr', de', fu', _, _, _, T', _⟩ := J'
      exact T.pss T' kk'.2.2.2.2
    have e53 : gi yA 53 (K.2.2 3 + 1) = Int32.ofNat (a + 1) := (kk'.2.1 53 _ (by omega) (by omega) (Nat.le_refl _)).trans u53
    have e54 : gi yA 54 (K.2.2 3 + 1) = Int32.ofNat (aF A) := (kk'.2.1 54 _ (by omega) (by omega) (Nat.le_refl _)).trans u54
    have hC' : CTM (K.2.2 4) b0 (K.2.2 0) 0 t (K.2.2 3) yM := by
      obtain ⟨c1, c2, c3, c4, c5⟩ := hC
      have e : ∀ k, 92 ≤ k → k ≤ 97 → gi yM k (K.2.2 4) = gi wM k (K.2.2 4) := fun k p q => kk'.2.2.2.1 k _ p q (by omega)
      exact ⟨(e 93 (by omega) (by omega)).trans c1, (e 94 (by omega) (by omega)).trans c2, (e 95 (by omega) (by omega)).trans c3, (e 97 (by omega) (by omega)).trans c4, (e 96 (by omega) (by omega)).trans c5⟩
    have hh : h < 30622 := by omega
    refine JS.ret (a0 := a + 1) (b0 := b0) (t := t) (x1 := x + 160000) hE J' hK hA hon hN low t1 t2 t3 ⟨t4, hb0⟩ (by omega) e53 e54 hC' ⟨by omega, hxk⟩ hh hsp (fun vA vM JJ hv OA2 OM2 hps => ?_)
    have k0 : KEE h (K.2.2 3) sp (K.2.2 4) wA wM uA wM := ⟨fun j hj => (OA 51 j (by omega)).2, fun k j p q r => (OA k j (by omega)).1, fun _ _ => rfl, fun _ _ _ _ _ => rfl, PSD.eq (OA 56 3 (by omega)).1 (OA 56 4 (by omega)).1⟩
    exact g vA vM sc' _ JJ h1 hv (k0.tr ((kk'.le (Nat.le_refl _) (Nat.le_succ _) (Nat.le_refl _) (Nat.le_succ _)).tr ⟨fun j hj => (OA2 51 j (by omega)).2, fun k j p q r => (OA2 k j (by omega)).1, fun j hj => (OM2 85 j (by omega)).2, fun k j p q r => (OM2 k j (by omega)).1, hps⟩))
end LA0
