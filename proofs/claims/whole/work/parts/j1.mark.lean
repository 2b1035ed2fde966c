/-! BOTH MACHINES: a call begins -/
section MK1
variable {E : SENV} {K : CXT} {Lim n p nx m a a1 a2 b b1 b2 h sp sc i el j k q : Nat} {x x1 : Int} {wA wM uA uM yM : Wd} {A B : ACT}
/-- MARK; the reference's JUMPS (q) and its CALL: both end alike when STEPS or DEPTH run out -/
theorem JS.mrk (hE : EOKS E) (H : JS E K (K.2.2 5) a b h sp sc x i wA wM) (hA : K.1[K.2.2 0]? = some A) (hw : gl (cA E) 41 a = wdC 41 0 0) (ha : a < eNo E 5 0) (hq : q ≤ 100) (hS : SPS q wM yM) (hR : RUNS yM)
    (r0 : ∀ pr de fu, TLM (eNo E 5 5) sc pr de fu wM → sc = eNo E 5 5 → ∃ u, fX12_step yM = some u ∧ gi u 0 140 = 100 ∧ TLM (eNo E 5 5) sc pr de fu u ∧ OFF PEM u wM)
    (r6 : ∀ pr de fu, TLM (eNo E 5 5) sc pr de fu wM → sc < eNo E 5 5 → K.2.2 3 = 60 → ∃ u, fX12_step yM = some u ∧ gi u 0 140 = 6 ∧ TLM (eNo E 5 5) (sc + 1) pr de fu u ∧ OFF PEM u wM)
    (g : sc < eNo E 5 5 → K.2.2 3 < 60 → ∀ uA pr de fu, TKS 1 wA uA → CK (cA E) (eNo E 5 0) (a + 1) (aF A) (K.2.2 1) h (K.2.2 3 + 1) (K.2.2 5) uA → TLY (eNo E 5 5) sc pr de fu wA → TLM (eNo E 5 5) sc pr de fu wM → TLY (eNo E 5 5) (sc + 1) pr (max de (K.2.2 3 + 1)) fu uA → OFF (fun k j => (k = 48 ∧ (j = 11 ∨ j = 15)) ∨ (k = 56 ∧ (j = 4 ∨ j = 5))) uA wA → GD E i wA wM) : GD E i wA wM := by
  have hd := H.dep
  obtain ⟨C, M⟩ := H.cka hA
  obtain ⟨_, pr, de, fu, j1, j2, j3, j4, j5, j6, j7, j8, j9, j10, ⟨j11, j12, j13, j14, j15, j16, j17⟩, o1, o2⟩ := id H
  have T1 : TLY (eNo E 5 5) sc pr de fu (si wA 48 11 (Int32.ofNat (a + 1))) := j4.nx
  have C1 := C.nx (a + 1)
  have tk := k_mark C ha hw
  obtain ⟨_, _, _, _, _, _, t7, t8, t9, t10, t11⟩ := id j4
  have hpr : ∀ {u v : Wd}, OFF PEN u wA → OFF PEM v wM → ∀ j, j < pr → j < 500 → gl u 55 j = gl v 86 j := fun {u v} OA OM j p1 p2 => by
    rw [(OA 55 j (by unfold PEN; omega)).2, (OM 86 j (by unfold PEM; omega)).2]; exact j7 j p1 p2
  have oA : ∀ {u : Wd}, OFF PEN u wA → OFF PZA u wA := fun {u} O => O.mono fun k j p => by unfold PEN at p; unfold PZA; omega
  have oM : ∀ {u : Wd}, OFF PEM u wM → OFF PZR u wM := fun {u} O => O.mono fun k j p => by unfold PEM at p; unfold PZR; omega
  have fin : ∀ {f : Int32} {sc1 : Nat} {u v : Wd}, fX3_tick wA = some u → ENDA f u → TLY (eNo E 5 5) sc1 pr de fu u → OFF PEN u wA → fX12_step yM = some v → ENDM f v → TLM (eNo E 5 5) sc1 pr de fu v → OFF PEM v wM → GD E i wA wM := fun {f sc1 u v} e1 e2 e3 e4 e5 e6 e7 e8 =>
    H.fin hE (k := q + 1) (by unfold KK; omega) (TKS.one hd.2.2.2.2 e1) (SPS.tr hS (SPS.one hR e5)) (by omega) e2 e6 e3 e7 (hpr e4 e8) (oA e4) (oM e8) (by omega)
  by_cases hs : sc = eNo E 5 5
  · rw [deep0 T1 hs] at tk
    obtain ⟨v, v1, v2, v3, v4⟩ := r0 pr de fu j6 hs
    exact fin tk ⟨gi_si0 _ _ _ _, by decide⟩ T1.en (OFF.tr (OFF.si (by unfold PEN; omega)) (OFF.si (by unfold PEN; omega))) v1 (Or.inl ⟨v2, rfl⟩) v3 v4
  have hs' : sc < eNo E 5 5 := by omega
  by_cases h6 : K.2.2 3 = 60
  · have h15 := C1.2.2.2.2.2.2.1
    rw [h6] at h15
    rw [deep6 T1 hs' h15] at tk
    obtain ⟨v, v1, v2, v3, v4⟩ := r6 pr de fu j6 hs' h6
    exact fin tk ⟨gi_si0 _ _ _ _, by decide⟩ (T1.pay hs').en (OFF.tr (OFF.si (by unfold PEN; omega)) (OFF.tr (OFF.si (by unfold PEN; omega)) (OFF.si (by unfold PEN; omega)))) v1 (Or.inr (Or.inl ⟨v2, by decide, by decide⟩)) v3 v4
  · rw [deep1 T1 hs' C1.2.2.2.2.2.2.1 (by omega)] at tk
    have O : OFF (fun k j => (k = 48 ∧ (j = 11 ∨ j = 15)) ∨ (k = 56 ∧ (j = 4 ∨ j = 5))) (si (si (si (si wA 48 11 (Int32.ofNat (a + 1))) 56 4 (Int32.ofNat (sc + 1))) 48 15 (Int32.ofNat (K.2.2 3 + 1))) 56 5 (Int32.ofNat (max de (K.2.2 3 + 1)))) wA := OFF.tr (OFF.si (by omega)) (OFF.tr (OFF.si (by omega)) (OFF.tr (OFF.si (by omega)) (OFF.si (by omega))))
    refine g hs' (by omega) _ pr de fu (TKS.one hd.2.2.2.2 tk) ?_ j4 j6 (T1.deep hs' (by omega)) O
    exact C.nw (O.mono fun k j p => by omega) (by rw [gi_si1 (by omega), gi_si1 (by omega), gi_si1 (by omega), gi_si0]) (by rw [(O 48 12 (by omega)).1]; exact C.2.2.2.1) (by rw [(O 48 13 (by omega)).1]; exact C.2.2.2.2.1) (by rw [(O 48 14 (by omega)).1]; exact C.2.2.2.2.2.1) (by rw [gi_si1 (by omega), gi_si0]) (by rw [(O 48 16 (by omega)).1]; exact C.2.2.2.2.2.2.2.1) ⟨C.2.2.2.2.2.2.2.2.1, C.2.2.2.2.2.2.2.2.2.1, C.2.2.2.2.2.2.2.2.2.2.1, by omega, C.2.2.2.2.2.2.2.2.2.2.2.2⟩
end MK1
