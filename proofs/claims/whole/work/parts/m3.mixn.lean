/-! BOTH MACHINES: a formal by name: either both fail, or the class's place is the reference's value -/
section MD3
variable {E : SENV} {Lim : Nat} {as : List ACT} {G : GHO}
theorem MXN (hE : EOKS E) (hS : SYS E) : ∀ (Lim ta t j : Nat) (ty : Int32) (B : ACT), (∀ L, L < Lim → ALLX E L) → THV E ta t ty B → MXD E Lim as G ta t j ty B ∨ NPD E Lim as G ta t j B := by
  intro Lim
  induction Lim using Nat.strongRecOn with
  | ind Lim ih =>
    intro ta t j ty B hX hT
    have hEN := hE.1
    obtain ⟨stk, k, n, c, a1, b1, t0, t1, t2, t3, ⟨t4, t5⟩, t6, t7⟩ := hT
    rcases t3 with d | d | d
    · right
      intro K A a b h sp sc x i wA wM q e1 e2 ⟨H, hAt, hon, hR, v1, v2, g1, g2, hq, hB, hBo, ha, hb, L, hsp, hH, hL, hh, hxa, hxk, tk⟩ st
      exact JS.us (m := 1) (m' := 1) hE H hAt tk st hR v1 v2 g1 g2 hq hB hBo t1 t2 (by omega) ha hb (fun j B hB => ⟨(L j B hB).1, (L j B hB).2.1⟩) hsp hxk (fun _ _ => ⟨rfl, d.2.1, by omega⟩) (fun hne => absurd ⟨rfl, d.1⟩ hne)
    · left
      obtain ⟨d1, d3, d4, d5, d6, d7, d8, d9, d10⟩ := d
      intro K A a b h sp sc x i wA wM q e1 e2 ⟨H, hAt, hon, hR, v1, v2, g1, g2, hq, hB, hBo, ha, hb, L, hsp, hH, hL, hh, hxa, hxk, tk⟩ st hc
      have N := H.num hAt
      obtain ⟨n1, n2, n3, n4, n5⟩ := id N
      refine JS.us (m := 1) (m' := 0) hE H hAt tk st hR v1 v2 g1 g2 hq hB hBo t1 t2 (by omega) ha hb (fun j B hB => ⟨(L j B hB).1, (L j B hB).2.1⟩) hsp hxk (fun c => absurd c (by decide)) ?_
      intro hne hs hdp uA uM J u52 u53 u54 hC OA OM hPS
      have hLL : eNo E 5 5 ≤ (Lim - 1) + (sc + 1) := by omega
      have hk0 : KEE h (K.2.2 3) sp (K.2.2 4) wA wM uA uM := KEE.pt OA OM hPS
      have hd := J.dep
      have hHL : HND E (useK K j) (Lim - 1) := (HND.use (j := j) hH).le (by omega)
      have hroom : ∀ z, z ≤ 502 → h + z ≤ 502 * ((useK K j).2.2 3 + 1) := fun z hz => by
        show h + z ≤ 502 * (K.2.2 3 + 1 + 1)
        omega
      refine hX (Lim - 1) (by omega) k 1 n stk (aP B) ta a1 c b1 (by omega) (fun s hs => J.sce (K := useK K j) hB hBo s (t0 s hs)) d3 d5 d7 d10 t6 t7 (useK K j) B h sp (sc + 1) _ _ _ _ hB hBo t0 rfl J hHL hLL (hroom _ d9) (fun j B hB => by have := hxa j B hB; unfold KK at *; omega) (by unfold KK at *; omega) ?_
      intro yA yM sc' i' J' h1 hp hk
      have e52 : gi yA 52 (K.2.2 3 + 1) = 1 := (hk.2.1 52 _ (by omega) (by omega) (Nat.le_refl _)).trans u52
      have e53 : gi yA 53 (K.2.2 3 + 1) = Int32.ofNat (a + 1) := (hk.2.1 53 _ (by omega) (by omega) (Nat.le_refl _)).trans u53
      have e54 : gi yA 54 (K.2.2 3 + 1) = Int32.ofNat (aF A) := (hk.2.1 54 _ (by omega) (by omega) (Nat.le_refl _)).trans u54
      have hp' : PP ty (useK K j) h sp yA yM := d8 ▸ hp
      have hC' := hk.ctm hC
      have hk1 := hk0.tr (hk.le (Nat.le_refl _) (Nat.le_succ _) (Nat.le_refl _) (Nat.le_succ _))
      obtain ⟨xx, qq, p1, p2, p3⟩ := hp'
      refine JS.emx (x1 := x + 1) hE J' hB N hAt hon (fun j B hB => L j B hB) d4 d6 t6 ⟨t7, by omega⟩ (by rw [e52]; decide) e53 e54 hC' p1 p2 p3 ⟨by unfold KK at *; omega, by omega⟩ (fun zA zM JJ hz z4 => ?_)
      exact hc zA zM sc' _ JJ (by omega) hz (hk1.tr z4)
    · obtain ⟨d1, d2, d3, ⟨y1, y2, y3, y4, y5, y6⟩, d5, d6, d7⟩ := d
      subst d2
      subst d3
      by_cases hN : NPD E Lim as G ta t j B
      · exact Or.inr hN
      left
      intro K A a b h sp sc x i wA wM q e1 e2 ⟨H, hAt, hon, hR, v1, v2, g1, g2, hq, hB, hBo, ha, hb, L, hsp, hH, hL, hh, hxa, hxk, tk⟩ st hc
      have N := H.num hAt
      obtain ⟨n1, n2, n3, n4, n5⟩ := id N
      refine JS.us (m := 1) (m' := 0) hE H hAt tk st hR v1 v2 g1 g2 hq hB hBo t1 t2 (by omega) ha hb (fun j B hB => ⟨(L j B hB).1, (L j B hB).2.1⟩) hsp hxk (fun c => absurd c (by decide)) ?_
      intro hne hs hdp uA uM J u52 u53 u54 hC OA OM hPS
      have hl0 : 0 < Lim := by omega
      have hLL : eNo E 5 5 ≤ (Lim - 1) + (sc + 1) := by omega
      have hk0 : KEE h (K.2.2 3) sp (K.2.2 4) wA wM uA uM := KEE.pt OA OM hPS
      have hd := J.dep
      have hHL : HND E (useK K j) (Lim - 1) := (HND.use (j := j) hH).le (by omega)
      have L1 : LOWD K (h + 1) (sp + 1) (K.2.2 3) (K.2.2 4) := fun j B hB => by have := L j B hB; omega
      obtain ⟨y, jj, nn, BB, ey, F⟩ := J.fns hS (A := B) hB hBo t0 y1
      rw [ey] at y5
      rw [ey, Nat.add_sub_cancel] at y2 y3 y4 y6
      obtain ⟨ta2, t2', j2, B2, FM⟩ := F.fmc y2 y3
      rcases ih (Lim - 1) (by omega) ta2 t2' j2 _ B2 (fun L hL => hX L (by omega)) FM.2.2.2.2.2 with hM | hNp
      · refine JS.fmu (m' := 0) (X := 2) (Lim := Lim - 1) hE hS FM y2 y5 y6 (fun zA JZ OZ => ?_) (Or.inl ⟨rfl, ?_, ?_⟩) J hB hBo (by omega) (by omega) hHL hLL (by show h + 2 ≤ 502 * (K.2.2 3 + 1 + 1); omega) (fun j B hB => by have := hxa j B hB; unfold KK at *; omega) (by unfold KK at *; omega) (fun zA U st' kk => ?_)
        · obtain ⟨CZ, _⟩ := JZ.cka (A := B) hB
          have e52 : gi zA 52 ((useK K j).2.2 3) = 1 := (OZ 52 _ (by unfold PSK; omega)).1.trans u52
          have := k_same CZ (by omega) d5
          rw [e52] at this
          exact this
        · show gi uM 95 (K.2.2 4 + 1 - 1) = 0
          rw [Nat.add_sub_cancel]; exact hC.2.2.1
        · show 1 ≤ K.2.2 4 + 1
          omega
        · refine hM (useK K j) B _ _ _ _ _ _ _ _ _ _ e1 e2 U st' (fun yA yM sc' i' J' h1 hp hk => ?_)
          have hk := kk.tr hk
          have e53 : gi yA 53 (K.2.2 3 + 1) = Int32.ofNat (a + 1) := (hk.2.1 53 _ (by omega) (by omega) (Nat.le_refl _)).trans u53
          have e54 : gi yA 54 (K.2.2 3 + 1) = Int32.ofNat (aF A) := (hk.2.1 54 _ (by omega) (by omega) (Nat.le_refl _)).trans u54
          refine JS.eus (x1 := x + 1) hE J' hB N hAt hon L1 d6 d7 t6 ⟨t7, by omega⟩ e53 e54 (hk.ctm hC) ⟨by unfold KK at *; omega, by omega⟩ (fun zA zM JJ PA PM => ?_)
          rw [y4] at hp
          exact hc zA zM sc' _ JJ (by omega) (PMX.mv (K := K) hp PA PM) (hk0.tr ((hk.le (Nat.le_refl _) (Nat.le_succ _) (Nat.le_refl _) (Nat.le_succ _)).tr (KEE.o48 PA PM)))
      · refine absurd ?_ hN
        clear hc st L hsp hH hL hh hxa hxk tk hAt hon hR v1 v2 g1 g2 hq
        intro K' A' a' b' h' sp' sc' x' i' wA' wM' q' f1 f2 ⟨H', hAt, hon, hR, v1, v2, g1, g2, hq, hB', hBo', ha, hb, L, hsp, hH, hL, hh, hxa, hxk, tk⟩ st
        have N' := H'.num hAt
        obtain ⟨n1', n2', n3', n4', n5'⟩ := id N'
        refine JS.us (m := 1) (m' := 1) hE H' hAt tk st hR v1 v2 g1 g2 hq hB' hBo' t1 t2 (by omega) ha hb (fun j B hB => ⟨(L j B hB).1, (L j B hB).2.1⟩) hsp hxk (fun _ c => absurd (c.symm.trans d1) (by decide)) ?_
        intro hne hs hdp uA' uM' J' u52' u53' u54' hC' OA' OM' hPS'
        have hHL' : HND E (useK K' j) (Lim - 1) := (HND.use (j := j) hH).le (by omega)
        obtain ⟨y', jj', nn', BB', ey', F'⟩ := J'.fns hS (A := B) hB' hBo' t0 y1
        have eyy : y' = y := by
          have := ey'.symm.trans ey
          omega
        subst eyy
        obtain ⟨ta3, t3', j3, B3, FM'⟩ := F'.fmc y2 y3
        obtain ⟨u1, u2, u3, u4, u5, u6⟩ := FM.uq hE FM' (show K'.1 = K.1 from f1.trans e1.symm) (show K'.2.1 = K.2.1 from f2.trans e2.symm) rfl J.mem.2 ⟨(J.act FM.2.1).2.2.2.2.2.2.1, (J'.act FM'.2.1).2.2.2.2.2.2.1⟩
        subst u1
        subst u2
        subst u3
        subst u4
        subst u5
        subst u6
        refine JS.fmu (m' := 1) (X := 2) (Lim := Lim - 1) hE hS FM' y2 y5 y6 (fun zA JZ OZ => ?_) (Or.inl ⟨rfl, ?_, ?_⟩) J' hB' hBo' (by omega) (by omega) hHL' (by omega) (by show h' + 2 ≤ 502 * (K'.2.2 3 + 1 + 1); omega) (fun j B hB => by have := hxa j B hB; unfold KK at *; omega) (by unfold KK at *; omega) (fun zA U st' kk => ?_)
        · obtain ⟨CZ, _⟩ := JZ.cka (A := B) hB'
          have e52 : gi zA 52 ((useK K' j).2.2 3) = 1 := (OZ 52 _ (by unfold PSK; omega)).1.trans u52'
          have := k_same CZ (by omega) d5
          rw [e52] at this
          exact this
        · show gi uM' 95 (K'.2.2 4 + 1 - 1) = 1
          rw [Nat.add_sub_cancel]; exact hC'.2.2.1
        · show 1 ≤ K'.2.2 4 + 1
          omega
        · exact hNp (useK K' j) B _ _ _ _ _ _ _ _ _ _ f1 f2 U st'
end MD3
