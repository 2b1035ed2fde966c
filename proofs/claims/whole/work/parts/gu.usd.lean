/-! BOTH MACHINES: uses, by the number of STEPS that are left -/
section UD
variable {E : SENV} {K : CXT} {Lim p nx a a1 b b1 h sp sc i el n j : Nat} {x x1 : Int} {stk : List Nat} {ty : Int32} {wA wM uA uM : Wd} {v : Int64} {A B : ACT}
theorem PV.mv (hp : PV ty K h sp wA wM) (OA : OFF (fun k j => k = 48) uA wA) (OM : OFF (fun k j => k = 0) uM wM) : PV ty K h sp uA uM := by
  unfold PV at hp ⊢
  rw [(OA 51 h (by omega)).2, (OM 85 sp (by omega)).2]; exact hp
theorem PP.mv (hp : PP ty K h sp wA wM) (OA : OFF (fun k j => k = 48) uA wA) (OM : OFF (fun k j => k = 0) uM wM) : PP ty K h sp uA uM := by
  unfold PP at hp ⊢
  rw [(OA 51 h (by omega)).2, (OM 85 sp (by omega)).2]; exact hp
theorem KEE.o48 {h dp sp cp : Nat} (OA : OFF (fun k j => k = 48) uA wA) (OM : OFF (fun k j => k = 0) uM wM) : KEE h dp sp cp wA wM uA uM :=
  ⟨fun j _ => (OA 51 j (by omega)).2, fun k j _ _ _ => (OA k j (by omega)).1, fun j _ => (OM 85 j (by omega)).2, fun k j _ _ _ => (OM k j (by omega)).1, PSD.eq (OA 56 3 (by omega)).1 (OA 56 4 (by omega)).1⟩
/-- what's saved of a use stays -/
theorem KEE.ctm {h dp sp cp b0 ev us : Nat} {m : Int32} (hk : KEE h dp sp (cp + 1) wA wM uA uM) (hC : CTM cp b0 ev m (-1) us wM) : CTM cp b0 ev m (-1) us uM := by
  obtain ⟨c1, c2, c3, c4, c5⟩ := hC
  have e : ∀ k, 92 ≤ k → k ≤ 97 → gi uM k cp = gi wM k cp := fun k p q => hk.2.2.2.1 k cp p q (by omega)
  exact ⟨(e 93 (by omega) (by omega)).trans c1, (e 94 (by omega) (by omega)).trans c2, (e 95 (by omega) (by omega)).trans c3, (e 97 (by omega) (by omega)).trans c4, (e 96 (by omega) (by omega)).trans c5⟩
theorem USD.step (hE : EOKS E) (hS : SYS E) (hA : ∀ L, L < Lim → ALLX E L ∧ USD E L) : USD E Lim := by
  intro K A B a b h sp sc x i wA wM ta t q j m ty ⟨H, hAt, hon, hR, v1, v2, g1, g2, hq, hB, hBo, ha, hb, L, hsp, hH, hL, hh, hxa, hxk, tk⟩ st hT hm hc
  have N := H.num hAt
  have hN := hE.1
  obtain ⟨n1, n2, n3, n4, n5⟩ := id N
  obtain ⟨stk, k, n, c, a1, b1, t0, t1, t2, t3, ⟨t4, t5⟩, t6, t7⟩ := hT
  have hmz : ∀ {α : Type} (P Q : α), (m = 0 ∧ (if m = 0 then P else Q) = P) ∨ (m = 1 ∧ (if m = 0 then P else Q) = Q) := fun P Q => by
    rcases hm with e | e
    · exact Or.inl ⟨e, if_pos e⟩
    · exact Or.inr ⟨e, if_neg (by rw [e]; decide)⟩
  refine JS.us (m := m) (m' := m) hE H hAt tk st hR v1 v2 g1 g2 hq hB hBo t1 t2 (by omega) ha hb (fun j B hB => ⟨(L j B hB).1, (L j B hB).2.1⟩) hsp hxk ?_ ?_
  · intro e1 e2
    rcases t3 with d | d | d
    · exact ⟨e1, d.2.1, by omega⟩
    · exact absurd (e2.symm.trans d.1) (by decide)
    · exact absurd (e2.symm.trans d.1) (by decide)
  · intro hne hs hdp uA uM J u52 u53 u54 hC OA OM hPS
    have hl0 : 0 < Lim := by omega
    obtain ⟨hX, hU⟩ := hA (Lim - 1) (by omega)
    have hLL : eNo E 5 5 ≤ (Lim - 1) + (sc + 1) := by omega
    have hk0 : KEE h (K.2.2 3) sp (K.2.2 4) wA wM uA uM := KEE.pt OA OM hPS
    have hd := J.dep
    have hHL : HND E (useK K j) (Lim - 1) := (HND.use (j := j) hH).le (by omega)
    have hroom : ∀ z, z ≤ 502 → h + z ≤ 502 * ((useK K j).2.2 3 + 1) := fun z hz => by
      show h + z ≤ 502 * (K.2.2 3 + 1 + 1)
      omega
    have L1 : LOWD K (h + 1) (sp + 1) (K.2.2 3) (K.2.2 4) := fun j B hB => by have := L j B hB; omega
    obtain ⟨C, M⟩ := J.cka (A := B) hB
    rcases t3 with d | d | d
    · obtain ⟨d1, d2, d3, d4, d5, d6, d7, d8, d9, d10⟩ := d
      obtain ⟨m0, eP⟩ | ⟨m1, _⟩ := hmz (PV ty) (PP ty)
      · rw [eP] at hc
        have tkn := k_nplace C (by omega) d2
        rw [if_neg (show ¬ gi uA 52 ((useK K j).2.2 3) = 1 by rw [show (useK K j).2.2 3 = K.2.2 3 + 1 from rfl, u52, m0]; decide)] at tkn
        have OA1 : OFF (PSK h) (si uA 48 11 (Int32.ofNat (ta + 1))) uA := OFF.si (Or.inl ⟨rfl, Or.inl rfl⟩)
        refine JS.stp (k := 1) (j := 0) (x1 := x + 2 - KK) (h1 := h) (sp1 := sp) hE J (TKS.one hd.2.2.2.2 tkn) (show SPS 0 uM uM from rfl) (by omega) (fun j B hB => ⟨(L j B hB).1, (L j B hB).2.1⟩) OA1 (OFF.rf : OFF (PSO sp) uM uM) (gi_si0 _ _ _ _) (by rw [gi_si1 (by omega)]; exact C.2.2.2.2.2.1) M.2.2.1 M.2.2.2.2.1 ⟨hd.2.1, hd.2.2.2.1, Nat.le_refl _, Nat.le_refl _, hsp⟩ ⟨by omega, by unfold KK at *; omega⟩ (fun J1 => ?_)
        refine hX k 0 n stk (aP B) (ta + 1) a1 c b1 (by omega) (fun s hs => J.sce (K := useK K j) hB hBo s (t0 s hs)) d3 d5 d7 d10 t6 t7 (useK K j) B h sp (sc + 1) _ _ _ _ hB hBo t0 rfl J1 hHL hLL (hroom _ d9) (fun j B hB => by have := hxa j B hB; unfold KK at *; omega) (by unfold KK at *; omega) ?_
        intro yA yM sc' i' J' h1 hp hk
        have e53 : gi yA 53 (K.2.2 3 + 1) = Int32.ofNat (a + 1) := (hk.2.1 53 _ (by omega) (by omega) (Nat.le_refl _)).trans ((by rw [gi_si1 (by omega)] : gi (si uA 48 11 (Int32.ofNat (ta + 1))) 53 (K.2.2 3 + 1) = gi uA 53 (K.2.2 3 + 1)).trans u53)
        have e54 : gi yA 54 (K.2.2 3 + 1) = Int32.ofNat (aF A) := (hk.2.1 54 _ (by omega) (by omega) (Nat.le_refl _)).trans ((by rw [gi_si1 (by omega)] : gi (si uA 48 11 (Int32.ofNat (ta + 1))) 54 (K.2.2 3 + 1) = gi uA 54 (K.2.2 3 + 1)).trans u54)
        refine JS.eus (x1 := x + 1) hE J' hB N hAt hon L1 d4 d6 t6 ⟨t7, by omega⟩ e53 e54 (hk.ctm hC) ⟨by unfold KK at *; omega, by omega⟩ (fun zA zM JJ PA PM => ?_)
        have hp' : PV ty (useK K j) h sp yA yM := d8 ▸ hp
        exact hc zA zM sc' _ JJ (by omega) (PV.mv (K := K) hp' PA PM) (hk0.tr ((KEE.st OA1 (OFF.rf : OFF (PSO sp) uM uM)).tr ((hk.le (Nat.le_refl _) (Nat.le_succ _) (Nat.le_refl _) (Nat.le_succ _)).tr (KEE.o48 PA PM))))
      · exact absurd ⟨m1, d1⟩ hne
    · obtain ⟨d1, d3, d4, d5, d6, d7, d8, d9, d10⟩ := d
      refine hX k 1 n stk (aP B) ta a1 c b1 (by omega) (fun s hs => J.sce (K := useK K j) hB hBo s (t0 s hs)) d3 d5 d7 d10 t6 t7 (useK K j) B h sp (sc + 1) _ _ _ _ hB hBo t0 rfl J hHL hLL (hroom _ d9) (fun j B hB => by have := hxa j B hB; unfold KK at *; omega) (by unfold KK at *; omega) ?_
      intro yA yM sc' i' J' h1 hp hk
      have e52 : gi yA 52 (K.2.2 3 + 1) = m := (hk.2.1 52 _ (by omega) (by omega) (Nat.le_refl _)).trans u52
      have e53 : gi yA 53 (K.2.2 3 + 1) = Int32.ofNat (a + 1) := (hk.2.1 53 _ (by omega) (by omega) (Nat.le_refl _)).trans u53
      have e54 : gi yA 54 (K.2.2 3 + 1) = Int32.ofNat (aF A) := (hk.2.1 54 _ (by omega) (by omega) (Nat.le_refl _)).trans u54
      have hp' : PP ty (useK K j) h sp yA yM := d8 ▸ hp
      have hC' := hk.ctm hC
      have hk1 := hk0.tr (hk.le (Nat.le_refl _) (Nat.le_succ _) (Nat.le_refl _) (Nat.le_succ _))
      obtain ⟨m0, eP⟩ | ⟨m1, eP⟩ := hmz (PV ty) (PP ty)
      · rw [eP] at hc
        obtain ⟨xx, qq, p1, p2, p3⟩ := hp'
        rw [m0] at hC' e52
        refine JS.erd (x1 := x + 1) hE J' hB N hAt hon (fun j B hB => L j B hB) d4 d6 t6 ⟨t7, by omega⟩ e52 e53 e54 hC' p1 p2 p3 ⟨by unfold KK at *; omega, by omega⟩ (fun zA zM vv JJ z1 z2 z3 z4 => ?_)
        exact hc zA zM sc' _ JJ (by omega) ⟨z1.trans z2.symm, z1.symm ▸ z3⟩ (hk1.tr z4)
      · rw [eP] at hc
        rw [m1] at hC' e52
        refine JS.epl (x1 := x + 1) hE J' hB N hAt hon L1 d4 d6 t6 ⟨t7, by omega⟩ (by rw [e52]; decide) e53 e54 hC' (by decide) ⟨by unfold KK at *; omega, by omega⟩ (fun zA zM JJ PA PM => ?_)
        exact hc zA zM sc' _ JJ (by omega) (PP.mv (K := K) hp' PA PM) (hk1.tr (KEE.o48 PA PM))
    · obtain ⟨d1, d2, d3, ⟨y1, y2, y3, y4, y5, y6⟩, d5, d6, d7⟩ := d
      subst d2
      subst d3
      obtain ⟨y, jj, nn, BB, ey, F⟩ := J.sym hS (A := B) hB hBo t0 y1
      rw [ey] at y5
      rw [ey, Nat.add_sub_cancel] at y2 y3 y4 y6
      refine USD.fml (m := m) (X := 2) (Lim := Lim - 1) hE hS F hU y2 y3 y5 y6 (fun zA JZ OZ => ?_) (Or.inl ⟨rfl, ?_, ?_⟩) J hB hBo (by omega) (by omega) hHL hLL (hroom 2 (by omega)) (fun j B hB => by have := hxa j B hB; unfold KK at *; omega) (by unfold KK at *; omega) hm ?_
      · obtain ⟨CZ, _⟩ := JZ.cka (A := B) hB
        have e52 : gi zA 52 ((useK K j).2.2 3) = m := (OZ 52 _ (by unfold PSK; omega)).1.trans u52
        have := k_same CZ (by omega) d5
        rw [e52] at this
        exact this
      · show gi uM 95 (K.2.2 4 + 1 - 1) = m
        rw [Nat.add_sub_cancel]; exact hC.2.2.1
      · show 1 ≤ K.2.2 4 + 1
        omega
      · intro yA yM sc' i' J' h1 hp hk
        have e53 : gi yA 53 (K.2.2 3 + 1) = Int32.ofNat (a + 1) := (hk.2.1 53 _ (by omega) (by omega) (Nat.le_refl _)).trans u53
        have e54 : gi yA 54 (K.2.2 3 + 1) = Int32.ofNat (aF A) := (hk.2.1 54 _ (by omega) (by omega) (Nat.le_refl _)).trans u54
        refine JS.eus (x1 := x + 1) hE J' hB N hAt hon L1 d6 d7 t6 ⟨t7, by omega⟩ e53 e54 (hk.ctm hC) ⟨by unfold KK at *; omega, by omega⟩ (fun zA zM JJ PA PM => ?_)
        rw [y4] at hp
        refine hc zA zM sc' _ JJ (by omega) ?_ (hk0.tr ((hk.le (Nat.le_refl _) (Nat.le_succ _) (Nat.le_refl _) (Nat.le_succ _)).tr (KEE.o48 PA PM)))
        obtain ⟨m0, eP⟩ | ⟨m1, eP⟩ := hmz (PV ty) (PP ty)
        · rw [eP] at hp ⊢
          exact PV.mv (K := K) hp PA PM
        · rw [eP] at hp ⊢
          exact PP.mv (K := K) hp PA PM
end UD
