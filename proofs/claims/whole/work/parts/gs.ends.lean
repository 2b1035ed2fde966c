/-! BOTH MACHINES: the ends of uses -/
section UE
variable {E : SENV} {K : CXT} {Lim p nx a a1 b b1 h sp sc i el a0 b0 j : Nat} {x x1 : Int} {ty : Int32} {wA wM uA uM : Wd} {v : Int64} {A B : ACT} {m m' : Int32}
/-- numbers of what's at hand -/
def NUM (K : CXT) (A : ACT) : Prop := K.2.2 4 ≤ 4 * K.2.2 3 + 4 ∧ K.1.length ≤ K.2.2 3 + 1 ∧ K.2.2 0 < 64 ∧ K.2.2 3 ≤ 60 ∧ aF A ≤ 109186
theorem JS.num (H : JS E K el a b h sp sc x i wA wM) (hA : K.1[K.2.2 0]? = some A) : NUM K A := by
  obtain ⟨C, M⟩ := H.cka hA
  have hd := H.dep
  obtain ⟨A', pr', de', fu', j1, j2, j3, j4, j5, j6, j7, j8, j9, j10, ⟨j11, j12, j13, j14, j15, j16, j17⟩, o1, o2⟩ := H
  exact ⟨j12, j15, M.2.2.2.2.2.2.2.2.2.2.2.1, hd.1, C.2.2.2.2.2.2.2.2.1⟩
/-- back from a use, the stack as it was but from h0 on -/
theorem JS.bck (hE : EOKS E) {h1 sp1 h0 sp0 k q : Nat} (J : JS E (useK K j) (K.2.2 5) a b h sp sc x i wA wM) (N : NUM K A) (hA : K.1[K.2.2 0]? = some A) (hon : aOn A) (L : LOWD K h0 sp0 (K.2.2 3) (K.2.2 4)) (OA : OFF (fun k j => (k = 48 ∧ (j = 11 ∨ j = 12 ∨ j = 14 ∨ j = 15)) ∨ (k = 51 ∧ h0 ≤ j)) uA wA) (OM : OFF (fun k j => (k = 0 ∧ (j = 127 ∨ j = 128 ∨ j = 129 ∨ j = 130 ∨ j = 134)) ∨ (k = 85 ∧ sp0 ≤ j)) uM wM) (c1 : gi uA 48 11 = Int32.ofNat a0) (c2 : gi uA 48 12 = Int32.ofNat (aF A)) (c3 : gi uA 48 14 = Int32.ofNat h1) (c4 : gi uA 48 15 = Int32.ofNat (K.2.2 3)) (M : MK (dM E) b0 (K.2.2 0) sp1 (K.2.2 4) K.1.length (K.2.2 2) (K.2.2 5) (K.2.2 3) uM) (hb : h0 ≤ h1 ∧ sp0 ≤ sp1 ∧ sp1 ≤ h1 ∧ h1 ≤ 30622) (hT : TKS k wA uA) (hR : SPS q wM uM) (hq : q ≤ 4 * k) (hx : x + k ≤ x1 ∧ x1 ≤ KK) (g : JS E K (K.2.2 5) a0 b0 h1 sp1 sc x1 (i + k) uA uM → GD E (i + k) uA uM) : GD E i wA wM := by
  obtain ⟨n1, n2, n3, n4, n5⟩ := N
  obtain ⟨B', pr, de, fu, j1, j2, j3, j4, j5, j6, j7, j8, j9, j10, ⟨j11, j12, j13, j14, j15, j16, j17⟩, o1, o2⟩ := id J
  have C : CK (cA E) (eNo E 5 0) a0 (aF A) (K.2.2 1) h1 (K.2.2 3) (K.2.2 5) uA := by
    refine j3.nw (OA.mono fun k j p => by omega) c1 c2 ?_ c3 c4 ?_ ⟨n5, j3.2.2.2.2.2.2.2.2.2.1, hb.2.2.2, n4, j3.2.2.2.2.2.2.2.2.2.2.2.2⟩
    · rw [(OA 48 13 (by omega)).1]; exact j3.2.2.2.2.1
    · rw [(OA 48 16 (by omega)).1]; exact j3.2.2.2.2.2.2.2.1
  have T : TLY (eNo E 5 5) sc pr de fu uA := j4.off OA (fun k j p => by omega)
  have TM : TLM (eNo E 5 5) sc pr de fu uM := j6.off OM (fun k j p => by omega)
  have JJ : JS E K (K.2.2 5) a0 b0 h1 sp1 sc x1 (i + k) uA uM := JS.tf (K' := K) (A := A) J (L : LOWD (useK K j) h0 sp0 (K.2.2 3) (K.2.2 4)) rfl rfl ⟨rfl, rfl, rfl⟩ (OA.mono fun k j p => by unfold PTA; omega) (OM.mono fun k j p => by unfold PTM; omega) (PSD.eq (OA 56 3 (by omega)).1 (OA 56 4 (by omega)).1) hA hon C T M TM (fun pr0 de0 fu0 T' => T'.uq j4) ⟨hb.1, hb.2.1, Nat.le_refl _, Nat.le_refl _, hb.2.2.1, n1, n2⟩ ⟨by omega, hx.2⟩
  exact JJ.go hE hT hR hq (g JJ)
/-- .. what's on the stack stays -/
theorem JS.eus (hE : EOKS E) (J : JS E (useK K j) (K.2.2 5) a b h sp sc x i wA wM) (hB : K.1[j]? = some B) (N : NUM K A) (hA : K.1[K.2.2 0]? = some A) (hon : aOn A) (L : LOWD K h sp (K.2.2 3) (K.2.2 4)) (hw : gl (cA E) 41 a = wdC 46 0 0) {y z : Int32} (ho : opW (dM E) b 17 0 y z) (ha : a < eNo E 5 0) (hb : b < 60000 ∧ b0 ≤ 60000) (e53 : gi wA 53 (K.2.2 3 + 1) = Int32.ofNat a0) (e54 : gi wA 54 (K.2.2 3 + 1) = Int32.ofNat (aF A)) (hC : CTM (K.2.2 4) b0 (K.2.2 0) m' (-1) (K.2.2 3) wM) (hx : x + 1 ≤ x1 ∧ x1 ≤ KK) (g : ∀ uA uM, JS E K (K.2.2 5) a0 b0 h sp sc x1 (i + 1) uA uM → OFF (fun k j => k = 48) uA wA → OFF (fun k j => k = 0) uM wM → GD E (i + 1) uA uM) : GD E i wA wM := by
  have hd := J.dep
  obtain ⟨n1, n2, n3, n4, n5⟩ := id N
  obtain ⟨C, M⟩ := J.cka (A := B) hB
  have tku := k_euse C ha hw
  have M1 := M.nx (b1 := b + 1) (by omega)
  have hC1 : CTM (K.2.2 4) b0 (K.2.2 0) m' (-1) (K.2.2 3) (si wM 0 128 (Int32.ofNat (b + 1))) := hC.off (OFF.si (P := fun k j => k = 0 ∧ j = 128) ⟨rfl, rfl⟩) (fun k p q r => by omega)
  obtain ⟨u, u1, u2, u3⟩ := fin_use (pl := false) M1 hC1 (fun q => by cases q) ⟨hb.2, n3, n4⟩
  have st := rm_fin M hb.1 ho
  rw [if_neg (by decide)] at st
  have OA : OFF (fun k j => k = 48 ∧ (j = 11 ∨ j = 12 ∨ j = 14 ∨ j = 15)) (si (si (si (si wA 48 11 (Int32.ofNat (a + 1))) 48 11 (gi wA 53 (K.2.2 3 + 1))) 48 12 (gi wA 54 (K.2.2 3 + 1))) 48 15 (Int32.ofNat (K.2.2 3))) wA := OFF.tr (OFF.si (by omega)) (OFF.tr (OFF.si (by omega)) (OFF.tr (OFF.si (by omega)) (OFF.si (by omega))))
  have OM : OFF (fun k j => k = 0 ∧ (j = 127 ∨ j = 128 ∨ j = 129 ∨ j = 130 ∨ j = 134)) u wM := OFF.tr (u3.mono fun k j p => by unfold PFM2 at p; omega) (OFF.si (by omega))
  refine JS.bck (k := 1) (q := 1) hE J N hA hon L (OA.mono fun k j p => Or.inl p) (OM.mono fun k j p => Or.inl p) ?_ ?_ ?_ (gi_si0 _ _ _ _) u2 ⟨Nat.le_refl _, Nat.le_refl _, hd.2.2.1, hd.2.2.2.1⟩ (TKS.one hd.2.2.2.2 tku) (SPS.one (M.runs ho hb.1 (by decide)) (st.trans u1)) (by omega) hx (fun JJ => g _ _ JJ (OA.mono fun k j p => p.1) (OM.mono fun k j p => p.1))
  · rw [gi_si1 (by omega), gi_si1 (by omega), gi_si0]; exact e53
  · rw [gi_si1 (by omega), gi_si0]; exact e54
  · rw [gi_si1 (by omega), gi_si1 (by omega), gi_si1 (by omega), gi_si1 (by omega)]; exact C.2.2.2.2.2.1
/-- a place is left as it is -/
theorem JS.epl (hE : EOKS E) (J : JS E (useK K j) (K.2.2 5) a b (h + 1) sp sc x i wA wM) (hB : K.1[j]? = some B) (N : NUM K A) (hA : K.1[K.2.2 0]? = some A) (hon : aOn A) (L : LOWD K (h + 1) sp (K.2.2 3) (K.2.2 4)) (hw : gl (cA E) 41 a = wdC 47 0 0) {y z : Int32} (ho : opW (dM E) b 17 1 y z) (ha : a < eNo E 5 0) (hb : b < 60000 ∧ b0 ≤ 60000) (e52 : gi wA 52 (K.2.2 3 + 1) ≠ 0) (e53 : gi wA 53 (K.2.2 3 + 1) = Int32.ofNat a0) (e54 : gi wA 54 (K.2.2 3 + 1) = Int32.ofNat (aF A)) (hC : CTM (K.2.2 4) b0 (K.2.2 0) m' (-1) (K.2.2 3) wM) (hm : m' ≠ 0) (hx : x + 1 ≤ x1 ∧ x1 ≤ KK) (g : ∀ uA uM, JS E K (K.2.2 5) a0 b0 (h + 1) sp sc x1 (i + 1) uA uM → OFF (fun k j => k = 48) uA wA → OFF (fun k j => k = 0) uM wM → GD E (i + 1) uA uM) : GD E i wA wM := by
  have hd := J.dep
  obtain ⟨n1, n2, n3, n4, n5⟩ := id N
  obtain ⟨C, M⟩ := J.cka (A := B) hB
  obtain ⟨yA, y1, tku⟩ := k_eplace C ha hw (x := 0) (fun q => absurd q e52)
  have y2 : yA = si wA 48 11 (Int32.ofNat (a + 1)) := y1.elim (fun q => absurd q.1 e52) (fun q => q.2)
  subst y2
  have M1 := M.nx (b1 := b + 1) (by omega)
  have hC1 : CTM (K.2.2 4) b0 (K.2.2 0) m' (-1) (K.2.2 3) (si wM 0 128 (Int32.ofNat (b + 1))) := hC.off (OFF.si (P := fun k j => k = 0 ∧ j = 128) ⟨rfl, rfl⟩) (fun k p q r => by omega)
  obtain ⟨u, u1, u2, u3⟩ := fin_use (pl := true) M1 hC1 (fun _ => hm) ⟨hb.2, n3, n4⟩
  have st := rm_fin M hb.1 ho
  rw [if_pos rfl] at st
  have OA : OFF (fun k j => k = 48 ∧ (j = 11 ∨ j = 12 ∨ j = 14 ∨ j = 15)) (si (si (si (si wA 48 11 (Int32.ofNat (a + 1))) 48 11 (gi wA 53 (K.2.2 3 + 1))) 48 12 (gi wA 54 (K.2.2 3 + 1))) 48 15 (Int32.ofNat (K.2.2 3))) wA := OFF.tr (OFF.si (by omega)) (OFF.tr (OFF.si (by omega)) (OFF.tr (OFF.si (by omega)) (OFF.si (by omega))))
  have OM : OFF (fun k j => k = 0 ∧ (j = 127 ∨ j = 128 ∨ j = 129 ∨ j = 130 ∨ j = 134)) u wM := OFF.tr (u3.mono fun k j p => by unfold PFM2 at p; omega) (OFF.si (by omega))
  refine JS.bck (k := 1) (q := 1) hE J N hA hon L (OA.mono fun k j p => Or.inl p) (OM.mono fun k j p => Or.inl p) ?_ ?_ ?_ (gi_si0 _ _ _ _) u2 ⟨Nat.le_refl _, Nat.le_refl _, hd.2.2.1, hd.2.2.2.1⟩ (TKS.one hd.2.2.2.2 tku) (SPS.one (M.runs ho hb.1 (by decide)) (st.trans u1)) (by omega) hx (fun JJ => g _ _ JJ (OA.mono fun k j p => p.1) (OM.mono fun k j p => p.1))
  · rw [gi_si1 (by omega), gi_si1 (by omega), gi_si0]; exact e53
  · rw [gi_si1 (by omega), gi_si0]; exact e54
  · rw [gi_si1 (by omega), gi_si1 (by omega), gi_si1 (by omega), gi_si1 (by omega)]; exact C.2.2.2.2.2.1
/-- a place is read -/
theorem JS.erd (hE : EOKS E) {xx q : Nat} (J : JS E (useK K j) (K.2.2 5) a b (h + 1) (sp + 1) sc x i wA wM) (hB : K.1[j]? = some B) (N : NUM K A) (hA : K.1[K.2.2 0]? = some A) (hon : aOn A) (L : LOWD K h sp (K.2.2 3) (K.2.2 4)) (hw : gl (cA E) 41 a = wdC 47 0 0) {y z : Int32} (ho : opW (dM E) b 17 1 y z) (ha : a < eNo E 5 0) (hb : b < 60000 ∧ b0 ≤ 60000) (e52 : gi wA 52 (K.2.2 3 + 1) = 0) (e53 : gi wA 53 (K.2.2 3 + 1) = Int32.ofNat a0) (e54 : gi wA 54 (K.2.2 3 + 1) = Int32.ofNat (aF A)) (hC : CTM (K.2.2 4) b0 (K.2.2 0) 0 (-1) (K.2.2 3) wM) (v1 : gl wA 51 h = Int64.ofNat xx) (v2 : gl wM 85 sp = Int64.ofNat q) (hG : K.2.1 0 xx q ty 0 0) (hx : x + 1 ≤ x1 ∧ x1 ≤ KK) (g : ∀ uA uM v, JS E K (K.2.2 5) a0 b0 (h + 1) (sp + 1) sc x1 (i + 1) uA uM → gl uA 51 h = v → gl uM 85 sp = v → VT ty v → KEE h (K.2.2 3) sp (K.2.2 4) wA wM uA uM → GD E (i + 1) uA uM) : GD E i wA wM := by
  have hd := J.dep
  obtain ⟨n1, n2, n3, n4, n5⟩ := id N
  obtain ⟨C, M⟩ := J.cka (A := B) hB
  obtain ⟨hM, hD⟩ := J.mem
  obtain ⟨w1, w2⟩ := (hM _ _ _ _ _ _ hG).1 rfl
  have b3 := hD.2.2 _ _ _ _ _ _ hG
  obtain ⟨yA, y1, tku⟩ := k_eplace C ha hw (x := xx) (fun _ => ⟨v1, (b3.2.1 (by omega)).1⟩)
  have y2 := y1.elim (fun q => q.2) (fun q => absurd e52 q.1)
  subst y2
  have M1 := M.nx (b1 := b + 1) (by omega)
  have hC1 : CTM (K.2.2 4) b0 (K.2.2 0) 0 (-1) (K.2.2 3) (si wM 0 128 (Int32.ofNat (b + 1))) := hC.off (OFF.si (P := fun k j => k = 0 ∧ j = 128) ⟨rfl, rfl⟩) (fun k p q r => by omega)
  have hr : RDM (si wM 0 128 (Int32.ofNat (b + 1))) (gl (si wM 0 128 (Int32.ofNat (b + 1))) 85 sp) (RMq wM q) := by
    rw [gl_si, v2]
    unfold RMq
    rcases b3.2.2.1 (by omega) with c | c
    · rw [if_pos c.2]
      exact Or.inl ⟨q, by have := M.2.2.2.2.2.2.2.2.2.2.2.2.2.2.2.1; have : q < (useK K j).2.2 2 := c.1; omega, rfl, rfl⟩
    · rw [if_neg (by omega)]
      refine Or.inr ⟨q - 1048576, ?_, congrArg Int64.ofNat (show q = 1048576 + (q - 1048576) by omega), rfl⟩
      have := M.2.2.2.2.2.2.2.2.2.2.2.2.2.2.2.2.1
      have : q < 1048576 + (useK K j).2.2 5 := c.2.1
      omega
  obtain ⟨u, u1, u2, u3, u4⟩ := fin_plc M1 hC1 hr ⟨by omega, n3, n4⟩
  have st := rm_fin M hb.1 ho
  rw [if_pos rfl] at st
  have OA : OFF (fun k j => (k = 48 ∧ (j = 11 ∨ j = 12 ∨ j = 14 ∨ j = 15)) ∨ (k = 51 ∧ h ≤ j)) (si (si (si (si (sl (si (si wA 48 11 (Int32.ofNat (a + 1))) 48 14 (Int32.ofNat h)) 51 h (gl wA 50 xx)) 48 14 (Int32.ofNat (h + 1))) 48 11 (gi wA 53 (K.2.2 3 + 1))) 48 12 (gi wA 54 (K.2.2 3 + 1))) 48 15 (Int32.ofNat (K.2.2 3))) wA := OFF.tr (OFF.si (by omega)) (OFF.tr (OFF.si (by omega)) (OFF.tr (OFF.si (by omega)) (OFF.tr (OFF.si (by omega)) (OFF.tr (OFF.sl (by omega)) (OFF.tr (OFF.si (by omega)) (OFF.si (by omega)))))))
  have OM : OFF (fun k j => (k = 0 ∧ (j = 127 ∨ j = 128 ∨ j = 129 ∨ j = 130 ∨ j = 134)) ∨ (k = 85 ∧ sp ≤ j)) u wM := OFF.tr (u4.mono fun k j p => by unfold PFM2 at p; omega) (OFF.si (by omega))
  refine JS.bck (k := 1) (q := 1) hE J N hA hon L OA OM ?_ ?_ ?_ (gi_si0 _ _ _ _) u2 ⟨by omega, by omega, hd.2.2.1, hd.2.2.2.1⟩ (TKS.one hd.2.2.2.2 tku) (SPS.one (M.runs ho hb.1 (by decide)) (st.trans u1)) (by omega) hx (fun JJ => g _ _ _ JJ ?_ u3 ?_ (KEE.pt (dp0 := K.2.2 3) (cp0 := K.2.2 4) (OA.mono fun k j p => by unfold PTA; omega) (OM.mono fun k j p => by unfold PTM; omega) (PSD.eq (OA 56 3 (by omega)).1 (OA 56 4 (by omega)).1)))
  · rw [gi_si1 (by omega), gi_si1 (by omega), gi_si0]; exact e53
  · rw [gi_si1 (by omega), gi_si0]; exact e54
  · rw [gi_si1 (by omega), gi_si1 (by omega), gi_si1 (by omega), gi_si0]
  · rw [gl_si, gl_si, gl_si, gl_si, gl_sl0]; exact w1
  · rw [← w1]; exact w2
end UE
