/-! BOTH MACHINES: AIMS -/
section AM
/-- static: LABELS', procedures', switches' words -/
def SAD (E : SENV) : Prop := ∀ y, y < eNo E 5 2 → gi (vM E) 19 y = 3 ∨ gi (vM E) 19 y = 4 ∨ gi (vM E) 19 y = 5 → y + 1 < eNo E 5 0 ∧ ∃ x, gl (cA E) 41 (y + 1) = Int64.ofNat x ∧ x < 40000
/-- LABELS that are formals, by the number of STEPS that are left -/
def USL (E : SENV) (Lim : Nat) : Prop := ∀ K A B a b h sp sc x i wA wM ta t q j, USX E Lim K A B a b h sp sc x i wA wM ta t q j 2 → fX12_step wM = fX12_use (Int32.ofNat q) 0 (si wM 0 128 (Int32.ofNat (b + 1))) → THL E ta t B →
  CTG E K (PL E) 2 (a + 1) (b + 1) h sp sc (x + 1) wA wM → GD E i wA wM
variable {E : SENV} {K : CXT} {Lim k n p nx a a1 b b1 y tk h sp sc i el j : Nat} {x : Int} {wA wM uA uM : Wd} {stk : List Nat} {ty : Int32} {A B : ACT}
theorem PL_pos : POS (PL E) 2 := fun K h sp uA uM vA vM OA OM hp => by
  unfold PL at hp ⊢
  rw [(OA 51 h (by unfold PSK; omega)).2, (OA 51 (h + 1) (by unfold PSK; omega)).2, (OM 85 sp (by unfold PSO; omega)).2, (OM 85 (sp + 1) (by unfold PSO; omega)).2]
  exact hp
theorem PL.mv (hp : PL E K h sp wA wM) (OA : OFF (fun k j => k = 48) uA wA) (OM : OFF (fun k j => k = 0) uM wM) : PL E K h sp uA uM := by
  unfold PL at hp ⊢
  rw [(OA 51 h (by omega)).2, (OA 51 (h + 1) (by omega)).2, (OM 85 sp (by omega)).2, (OM 85 (sp + 1) (by omega)).2]; exact hp
theorem USL.step (hE : EOKS E) (hA : ∀ L, L < Lim → ALLX E L) : USL E Lim := by
  intro K A B a b h sp sc x i wA wM ta t q j ⟨H, hAt, hon, hR, v1, v2, g1, g2, hq, hB, hBo, ha, hb, L, hsp, hH, hL, hh, hxa, hxk, tk⟩ st hT hc
  have N := H.num hAt
  have hN := hE.1
  obtain ⟨n1, n2, n3, n4, n5⟩ := id N
  obtain ⟨stk, k, n, c, a1, b1, t0, t1, t2, d1, d3, d4, d5, d6, d7, d9, d10, ⟨t4, t5⟩, t6, t7⟩ := hT
  refine JS.us (m := 2) (m' := 0) hE H hAt tk st hR v1 v2 g1 g2 hq hB hBo t1 t2 (by omega) ha hb (fun j B hB => ⟨(L j B hB).1, (L j B hB).2.1⟩) hsp hxk (fun e => absurd e (by decide)) ?_
  intro hne hs hdp uA uM J u52 u53 u54 hC OA OM hPS
  have hl0 : 0 < Lim := by omega
  have hX := hA (Lim - 1) (by omega)
  have hLL : eNo E 5 5 ≤ (Lim - 1) + (sc + 1) := by omega
  have hk0 : KEE h (K.2.2 3) sp (K.2.2 4) wA wM uA uM := KEE.pt OA OM hPS
  have hHL : HND E (useK K j) (Lim - 1) := (HND.use (j := j) hH).le (by omega)
  have hroom : h + NDX (vM E) k 2 n ≤ 502 * ((useK K j).2.2 3 + 1) := by
    show h + _ ≤ 502 * (K.2.2 3 + 1 + 1)
    omega
  have L1 : LOWD K (h + 2) (sp + 2) (K.2.2 3) (K.2.2 4) := fun j B hB => by have := L j B hB; omega
  refine hX k 2 n stk (aP B) ta a1 c b1 (by omega) (fun s hs => J.sce (K := useK K j) hB hBo s (t0 s hs)) d3 d5 d7 d10 t6 t7 (useK K j) B h sp (sc + 1) _ _ _ _ hB hBo t0 rfl J hHL hLL hroom (fun j B hB => by have := hxa j B hB; unfold KK at *; omega) (by unfold KK at *; omega) ?_
  intro yA yM sc' i' J' h1 hp hk
  have e53 : gi yA 53 (K.2.2 3 + 1) = Int32.ofNat (a + 1) := (hk.2.1 53 _ (by omega) (by omega) (Nat.le_refl _)).trans u53
  have e54 : gi yA 54 (K.2.2 3 + 1) = Int32.ofNat (aF A) := (hk.2.1 54 _ (by omega) (by omega) (Nat.le_refl _)).trans u54
  have hp' : PL E (useK K j) h sp yA yM := hp
  refine JS.eus (h := h + 2) (sp := sp + 2) (x1 := x + 1) hE J' hB N hAt hon L1 d4 d6 t6 ⟨t7, by omega⟩ e53 e54 (hk.ctm hC) ⟨by unfold KK at *; omega, by omega⟩ (fun zA zM JJ PA PM => ?_)
  exact hc zA zM sc' _ JJ (by omega) (PL.mv (K := K) hp' PA PM) (hk0.tr ((hk.le (Nat.le_refl _) (Nat.le_succ _) (Nat.le_refl _) (Nat.le_succ _)).tr (KEE.o48 PA PM)))
/-- what FNDS says of a place that a symbol's SCOPE has -/
theorem FNDS.suf (F : FNDS E K wA wM A y j n B) : ∃ s r, (s :: r) <:+ aK B ∧ own E s (aP B) ∧ y ∈ eSL E s := by
  obtain ⟨f1, f2, f3, f4, f5, f6, f7, f8, f9, f10, f11, f12, f13, s, f14, f15, f16⟩ := F
  obtain ⟨r, hr⟩ := suf_in f14
  exact ⟨s, r, hr, f15, f16⟩
/-- not a formal, not own: how many frames further out -/
theorem FNDS.hop (hS : SYS E) (F : FNDS E K wA wM A y j n B) (h6 : gi (vM E) 19 y = 3 ∨ gi (vM E) 19 y = 4 ∨ gi (vM E) 19 y = 5) : gi (vA E) 16 (y + 1) = 0 ∧ gi (vA E) 14 (y + 1) = gi (vM E) 19 y ∧ hpC (vA E) (eLV E (aP A)) (y + 1) = Int32.ofNat n := by
  obtain ⟨f1, f2, f3, f4, f5, f6, f7, f8, f9, f10, f11, f12, f13, f17⟩ := F
  obtain ⟨kd, m, C, hY⟩ := hS.sy f1
  have h16 : gi (vA E) 16 (y + 1) = 0 := by
    obtain ⟨_, _, _, _, _, _, _, _, hK⟩ := hY
    rcases hK with k | k | k | k | k | k
    · rcases h6 with g | g | g <;> exact absurd (g.symm.trans k.1) (by decide)
    · exact k.2.2.1
    · exact k.2.2.1
    · exact k.2.2.1
    · exact k.2.2.1
    · rcases h6 with g | g | g <;> exact absurd (g.symm.trans k.1) (by decide)
  have hs := hY.srt
  rw [if_neg (by rcases h6 with g | g | g <;> rw [g] <;> decide)] at hs
  refine ⟨h16, hs, ?_⟩
  unfold hpC
  rw [if_neg (by rw [h16]; decide)]
  exact f9
/-- a word of the code's beginning and a frame are pushed, by the class -/
theorem AT_ok (hE : EOKS E) (H : JS E K el a b h sp sc x i wA wM) (hA : K.1[K.2.2 0]? = some A) {u s xx f : Nat} (hw : gl (cA E) 41 a = wdC 22 (Int32.ofNat u) (Int32.ofNat s)) (hs : s < eNo E 5 0) (hx : gl (cA E) 41 s = Int64.ofNat xx) (hx9 : xx < 40000) (hy : HOP wA (K.2.2 1) (aF A) u f) (hf : f ≤ K.2.2 1) (ha : a < eNo E 5 0) (hh : h + 2 ≤ 30622) : TKS 1 wA (si (sl (pshW wA (a + 1) h (Int64.ofNat xx)) 51 (h + 1) (Int64.ofNat f)) 48 14 (Int32.ofNat (h + 2))) ∧ OFF (PSK h) (si (sl (pshW wA (a + 1) h (Int64.ofNat xx)) 51 (h + 1) (Int64.ofNat f)) 48 14 (Int32.ofNat (h + 2))) wA ∧ gi (si (sl (pshW wA (a + 1) h (Int64.ofNat xx)) 51 (h + 1) (Int64.ofNat f)) 48 14 (Int32.ofNat (h + 2))) 48 11 = Int32.ofNat (a + 1) ∧ gl (si (sl (pshW wA (a + 1) h (Int64.ofNat xx)) 51 (h + 1) (Int64.ofNat f)) 48 14 (Int32.ofNat (h + 2))) 51 h = Int64.ofNat xx ∧ gl (si (sl (pshW wA (a + 1) h (Int64.ofNat xx)) 51 (h + 1) (Int64.ofNat f)) 48 14 (Int32.ofNat (h + 2))) 51 (h + 1) = Int64.ofNat f := by
  have hd := H.dep
  obtain ⟨C, M⟩ := H.cka hA
  refine ⟨TKS.one hd.2.2.2.2 (k_at C ha hw hs hx (by omega) hy hf (by omega)), OFF.tr (OFF.si (Or.inl ⟨rfl, Or.inr rfl⟩)) (OFF.tr (OFF.sl (Or.inr ⟨rfl, by omega⟩)) pshW_off), ?_, ?_, ?_⟩
  · unfold pshW pshQ; rw [gi_si1 (by omega), gi_sl, gi_si1 (by omega), gi_sl, gi_si0]
  · rw [gl_si, gl_sl1 (by omega), pshW_v]
  · rw [gl_si, gl_sl0]
theorem JS.frm (H : JS E K el a b h sp sc x i wA wM) (hB : K.1[j]? = some B) (hon : aOn B) : aF B < K.2.2 1 := by
  obtain ⟨⟨L, hL, hLo, gF, hc⟩, _⟩ := (H.act hB).2.2.2.2.2.2.2 hon
  exact ((H.mem.2.2.2 _ _ _ _ _ _ gF).2.1 (by omega)).1
/-- an AIM that's a NAME -/
theorem NOD.a3 (hE : EOKS E) (hS : SYS E) (hW : SAD E) (hU : USL E Lim) (H : NOD E stk p (k + 1) 2 n a a1 b b1) (h : gi (vM E) 7 n = 3) : SIM E Lim stk p (k + 1) 2 n a a1 b b1 := by
  obtain ⟨h1, h2, h3, h4, h5, h6, h7⟩ := H
  rw [cdc2_3 h] at h2
  rw [cdm2_3 h] at h3
  obtain ⟨q, hq⟩ := flx23_n (hS.no0 h1) h h4
  obtain ⟨y, ey⟩ : ∃ y, eLU E stk (nd (vM E) 12 n) = y + 1 := ⟨eLU E stk (nd (vM E) 12 n) - 1, (Nat.sub_add_cancel (Nat.pos_of_ne_zero q)).symm⟩
  have hy := hS.nm h1 ey
  unfold SIM PMD cnP
  rw [if_neg (by decide), if_neg (by decide), if_pos rfl, ndx2_3 h]
  rw [ey] at h2 h3 hq
  rw [Nat.add_sub_cancel] at hq h3
  obtain ⟨a2, ⟨c1, c2⟩, c3⟩ := h2
  subst c2
  intro K A hh sp sc x i wA wM hA hon hstk hp H hH hL hh' hxa hxk hc
  subst hp
  have hd := H.dep
  obtain ⟨y', j, nn, B, e, F⟩ := H.sym hS hA hon hstk (tk := nd (vM E) 12 n) q
  have : y' = y := by
    have := e.symm.trans ey
    omega
  subst this
  rcases hq with hq | hq
  · obtain ⟨w1, w2, w3⟩ := F.hop hS (Or.inr (Or.inl hq))
    rw [if_neg (by rw [w2, hq]; decide), if_neg (by rw [w1]; decide), w3] at c1
    rcases c3 with ⟨c, _⟩ | ⟨_, c3⟩
    · rw [w1] at c; exact absurd c (by decide)
    subst c3
    rcases h3 with ⟨_, d2, d3⟩ | ⟨d, _⟩ | ⟨d, _⟩
    · subst d3
      obtain ⟨s1, xx, s2, s3⟩ := hW y' hy (Or.inr (Or.inl hq))
      obtain ⟨f1, f2, f3, f4, f5, f6, f7, f8, f9, f10, f11, f12, f13, f17⟩ := id F
      obtain ⟨g1, g2, g3, g4, g5⟩ := AT_ok hE H hA c1 s1 s2 s3 (Or.inl ⟨by omega, f5⟩) (Nat.le_of_lt (H.frm f2 f3)) (by omega) (by omega)
      obtain ⟨C, M⟩ := H.cka hA
      rw [f8] at d2
      have hEN := hE.1
      have st := rm_label M (by omega) d2 (by omega) (by omega) f6 f10
      obtain ⟨s, r, z1, z2, z3⟩ := F.suf
      refine CTG.psh (k := 1) (j := 1) hE H hc g1 (SPS.one (M.runs d2 (by omega) (by decide)) st) (by omega) (by omega) g2 (OFF.tr (pshM_off.mono fun k j p => by unfold PSO at p ⊢; omega) (OFF.tr pshM_off (OFF.si (Or.inl ⟨rfl, Or.inl rfl⟩)))) g3 (gi_si0 _ _ _ _) ?_ (gi_si0 _ _ _ _) ⟨by omega, by omega⟩ hxk ⟨y', j, B, s, r, f2, f3, z1, z2, z3, hq, g4.trans s2.symm, g5, ?_, pshM_v⟩
      · unfold pshM; rw [gi_si1 (by omega), gi_sl, gi_si1 (by omega), gi_sl, gi_si0]
      · rw [pshM_o (by omega)]; exact pshM_v
    · exact absurd (hq.symm.trans d.1) (by decide)
    · exact absurd (hq.symm.trans d.1) (by decide)
  · obtain ⟨kd, m, C0, hY⟩ := hS.sy hy
    have h28 : gi (vM E) 28 y' = 0 := by
      by_cases z : gi (vM E) 28 y' = 0
      · exact z
      · exact absurd ((hY.val hq.1 z).symm.trans hq.2) (by decide)
    have w16 : gi (vA E) 16 (y' + 1) = 3 := hY.fml.mpr ⟨hq.1, h28⟩
    have w14 : gi (vA E) 14 (y' + 1) = 4 := by
      have := hY.srt
      rw [if_pos hq.1, hq.2] at this
      exact this
    rw [if_neg (by rw [w14]; decide), if_pos w16] at c1
    rcases c3 with ⟨_, c3, c4⟩ | ⟨c, _⟩
    · subst c4
      rcases h3 with ⟨d, _⟩ | ⟨_, d2, d3⟩ | ⟨d, _⟩
      · exact absurd (hq.1.symm.trans d) (by decide)
      · subst d3
        obtain ⟨e1, e2, e3, e4, e5⟩ := F.fml hS hq.1
        obtain ⟨f1, f2, f3, f4, f5⟩ := id F
        obtain ⟨ta, t, j', B', s1, s2, s3, s4, s5⟩ := f4.2.2.2.2.2.2.2.1 hq.1 hq.2
        rw [e1, e2] at c1
        rw [e3] at d2
        refine JS.pair hE H hA c1 e4 s3 s4 (by omega) (by omega) (x1 := x + 1) ⟨Int.le_refl _, by omega⟩ (fun uA OA J v1 v2 => ?_)
        obtain ⟨C, M⟩ := J.cka hA
        obtain ⟨hM, hD⟩ := J.mem
        have m1 := (hM _ _ _ _ _ _ s3).2.2 (Or.inl rfl)
        have m2 := (hM _ _ _ _ _ _ s4).2.2 (Or.inl rfl)
        have hq' : aB B + sM E y' + 1 < 200000 := by
          rcases (hD.2.2 _ _ _ _ _ _ s4).2.2.1 (by omega) with c | c
          · have := M.2.2.2.2.2.2.2.2.2.2.2.2.2.2.2.1
            omega
          · have := F.2.2.2.2.2.2.2.2.2.2.2
            omega
        unfold RMq at m1 m2
        rw [if_pos (by omega)] at m1 m2
        refine hU K A B' (a + 1) b hh sp sc (x + 1) (i + 1) uA wM ta t _ j' ⟨J, hA, hon, M.runs d2 (by omega) (by decide), v1, v2, m1, m2, hq', s1, s2, by omega, by omega, H.lod, hd.2.2.1, hH, hL, by omega, fun j B hB => by have := hxa j B hB; omega, by omega, k_use (m := 2) C (by omega) c3 (by omega)⟩ (rm_usel M (by omega) d2 e5) s5 ?_
        intro yA yM sc' i' J' l1 l2 l3
        have e9 : x + 1 + 1 = x + ((a + 1 + 1 : Nat) - (a : Int)) := by omega
        rw [e9] at J'
        exact hc yA yM sc' i' J' l1 l2 ((KEE.st OA (OFF.rf : OFF (PSO sp) wM wM)).tr l3)
      · exact absurd (hq.2.symm.trans d.2) (by decide)
    · exact absurd w16 c
theorem NOD.a9 (ih : ALLk E Lim k) (H : NOD E stk p (k + 1) 2 n a a1 b b1) (h : gi (vM E) 7 n = 9) : SIM E Lim stk p (k + 1) 2 n a a1 b b1 := by
  obtain ⟨h1, h2, h3, h4, h5, h6, h7⟩ := H
  rw [cdc2_9 h] at h2
  rw [cdm2_9 h] at h3
  rw [flx2_9 h] at h4
  rw [okn2_9 h] at h5
  have := NOD.sim (md := 2) ih (by omega) ⟨h1, h2, h3, h4, h5, h6, h7⟩
  unfold SIM PMD at this ⊢
  rw [if_neg (by decide), if_neg (by decide)] at this ⊢
  rw [ndx2_9 h]
  exact this
theorem NOD.a8 (hE : EOKS E) (hS : SYS E) (ih : ALLk E Lim k) (H : NOD E stk p (k + 1) 2 n a a1 b b1) (h : gi (vM E) 7 n = 8) : SIM E Lim stk p (k + 1) 2 n a a1 b b1 := by
  obtain ⟨h1, h2, h3, h4, h5, h6, h7⟩ := H
  rw [cdc2_8 h] at h2
  rw [cdm2_8 h] at h3
  rw [okn2_8 h] at h5
  rw [flx2_8 h] at h4
  obtain ⟨f12, f3⟩ := app_nil h4
  obtain ⟨f1, f2⟩ := app_nil f12
  obtain ⟨a2, a3, c1, c2, c3, c4, c5⟩ := h2
  obtain ⟨b2, b3, d1, d2, d3, d4, d5⟩ := h3
  have l1 := WLE hS h1 k 0 (nd (vM E) 8 n) 0 (Or.inl (by omega)) h5.1 (app_nil f1).1
  have l2 := WLE hS h1 k 2 (nd (vM E) 9 n) 0 (Or.inl (by omega)) h5.2.1 f2
  have l3 := WLE hS h1 k 2 (nd (vM E) 10 n) 0 (Or.inl (by omega)) h5.2.2 f3
  have e1 := l1.1 _ _ _ _ c1
  have e2 := l2.1 _ _ _ _ c3
  have e3 := l3.1 _ _ _ _ c5
  have g1 := l1.2 _ _ _ _ _ d1
  have g2 := l2.2 _ _ _ _ _ d3
  have g3 := l3.2 _ _ _ _ _ d5
  have t1 := TYX_is hS h1 d1 h5.1 (app_nil f1).1 (app_nil f1).2
  have v1 := (NOD.sim (md := 0) ih (by omega) ⟨h1, c1, d1, (app_nil f1).1, h5.1, by omega, by omega⟩).v
  rw [t1] at v1
  have v2 := NOD.sim (md := 2) ih (by omega) ⟨h1, c3, d3, f2, h5.2.1, by omega, by omega⟩
  have v3 := NOD.sim (md := 2) ih (by omega) ⟨h1, c5, d5, f3, h5.2.2, h6, h7⟩
  unfold SIM PMD at v2 v3 ⊢
  rw [if_neg (by decide), if_neg (by decide)] at v2 v3 ⊢
  rw [ndx2_8 h]
  refine SIG.if3 hE PL_pos (SIV_g.mp v1) v2 v3 ⟨e1, e2, e3, h6⟩ ⟨by omega, by omega, by omega⟩ ⟨Nat.le_max_left _ _, ?_, ?_⟩ c2 c4 d2 d4
  · exact Nat.le_trans (Nat.le_max_left _ _) (Nat.le_max_right _ _)
  · exact Nat.le_trans (Nat.le_max_right _ _) (Nat.le_max_right _ _)
end AM
