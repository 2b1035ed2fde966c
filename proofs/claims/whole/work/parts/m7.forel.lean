/-! BOTH MACHINES: ELEMENTS of a for -/
section MH7
variable {E : SENV} {K : CXT} {Lim p a a' a1 a2 b b' b1 b2 h sp sc i el nx L T t sg m1 m2 s0 c e va vm H x4 b3 e3 M v1 pl j k q u1 d1 s2 u3 b4 d2 d3 d4 d5 d6 S U : Nat} {x x1 x0 xs cap : Int} {stk : List Nat} {ty ty2 : Int32} {wA wM uA uM yA yM : Wd} {v v2 w1 : Int64} {A B : ACT} {G : GHO} {PT PR : Nat → Nat → Wd → Prop}
theorem FG.le {cap2 : Int} (h : FG E L K A cap c e) (hc : cap2 ≤ cap) : FG E L K A cap2 c e := fun sc x t wA wM J hx hL => h sc x t wA wM J (by omega) hL
/-- two operands at hand -/
theorem JS.two (hE : EOKS E) {sg : Nat} {g9 : Wd} (hs : SG2 sg) (J2 : JS E K (K.2.2 5) a2 b2 (h + 1 + 1) (sp + 1 + 1) sc x i yA yM) (hlow : LOWK K h sp) (g1 : gl yA 51 h = w1) (g2 : gl yM 85 sp = w1) (u3 : gl yA 51 (h + 1) = v2) (u4 : gl yM 85 (sp + 1) = v2) (hv2 : VT ty2 v2) (ho : opW (dM E) b2 8 (Int32.ofNat (kM sg)) 0 0) (hw : gl (cA E) 41 a2 = wdC (fX2_operation (Int32.ofNat sg) g9) 0 0) (ha : a2 < eNo E 5 0) (hb : b2 < 60000) (hx : x + 1 ≤ x1 ∧ x1 ≤ KK)
    (g : ∀ uA uM v, JS E K (K.2.2 5) (a2 + 1) (b2 + 1) (h + 1) (sp + 1) sc x1 (i + 1) uA uM → gl uA 51 h = v → gl uM 85 sp = v → VT (sgY (Int32.ofNat (kM sg))) v → OFF (PSK h) uA yA → OFF (PSO sp) uM yM → GD E (i + 1) uA uM) : GD E i yA yM := by
  have hd := J2.dep
  obtain ⟨A', e1, e2, C, M⟩ := J2.ck
  have hx' : fX2_operation (Int32.ofNat sg) g9 = Int32.ofNat (fX2_operation (Int32.ofNat sg) g9).toNatClampNeg ∧ (fX2_operation (Int32.ofNat sg) g9).toNatClampNeg < 16 := by
    rcases hs with e | e | e | e | e | e | e | e | e | e | e | e | e | e | e | e <;> subst e <;> (refine ⟨rfl, ?_⟩; unfold fX2_operation; decide)
  have O1 : OFF (fun k j => k = 48 ∧ (j = 11 ∨ j = 14)) (si (si (si yA 48 11 (Int32.ofNat (a2 + 1))) 48 14 (Int32.ofNat (h + 1))) 48 14 (Int32.ofNat h)) yA := OFF.tr (OFF.si (by omega)) (OFF.tr (OFF.si (by omega)) (OFF.si (by omega)))
  have q11 : gi (si (si (si yA 48 11 (Int32.ofNat (a2 + 1))) 48 14 (Int32.ofNat (h + 1))) 48 14 (Int32.ofNat h)) 48 11 = Int32.ofNat (a2 + 1) := by rw [gi_si1 (by omega), gi_si1 (by omega), gi_si0]
  have tkc : fX3_tick yA = some (match twR sg w1 v2 with | some v => pshQ (si (si (si yA 48 11 (Int32.ofNat (a2 + 1))) 48 14 (Int32.ofNat (h + 1))) 48 14 (Int32.ofNat h)) h v | none => si (si (si (si yA 48 11 (Int32.ofNat (a2 + 1))) 48 14 (Int32.ofNat (h + 1))) 48 14 (Int32.ofNat h)) 48 10 2) := by
    have hw' := hw
    rw [hx'.1] at hw'
    rw [tk_calc (x := (fX2_operation (Int32.ofNat sg) g9).toNatClampNeg) C ha hw' hx'.2, ← hx'.1, g1, u3]
    exact twA hs (gi_si0 _ _ _ _) (by omega) hv2.r
  have stc : fX12_step yM = some (match twR sg w1 v2 with | some v => pshM (si (si (si yM 0 128 (Int32.ofNat (b2 + 1))) 0 130 (Int32.ofNat (sp + 1))) 0 130 (Int32.ofNat sp)) sp v | none => si (si (si (si yM 0 128 (Int32.ofNat (b2 + 1))) 0 130 (Int32.ofNat (sp + 1))) 0 130 (Int32.ofNat sp)) 0 140 2) := by
    rw [stM_eq M ho hb]
    have M1 := M.nx (b1 := b2 + 1) (by omega)
    unfold stpB
    rw [if_neg (show ¬ ((8 : Int32) = 1) by decide), if_neg (show ¬ ((8 : Int32) = 2) by decide), if_neg (show ¬ ((8 : Int32) = 3) by decide), if_neg (show ¬ ((8 : Int32) = 4) by decide), if_neg (show ¬ ((8 : Int32) = 5) by decide), if_neg (show ¬ ((8 : Int32) = 6) by decide), if_neg (show ¬ ((8 : Int32) = 7) by decide), if_pos (show (8 : Int32) = 8 from rfl), twM hs (p := w1) (q := v2) M1.2.2.2.2.1 (by omega) (by rw [gl_si]; exact g2) (by rw [gl_si]; exact u4) hv2.r M1.2.1, bn_so]
    rfl
  have O2 : OFF (fun k j => k = 0 ∧ (j = 128 ∨ j = 130)) (si (si (si yM 0 128 (Int32.ofNat (b2 + 1))) 0 130 (Int32.ofNat (sp + 1))) 0 130 (Int32.ofNat sp)) yM := OFF.tr (OFF.si (by omega)) (OFF.tr (OFF.si (by omega)) (OFF.si (by omega)))
  have q28 : gi (si (si (si yM 0 128 (Int32.ofNat (b2 + 1))) 0 130 (Int32.ofNat (sp + 1))) 0 130 (Int32.ofNat sp)) 0 128 = Int32.ofNat (b2 + 1) := by rw [gi_si1 (by omega), gi_si1 (by omega), gi_si0]
  have hR := M.runs ho hb (by decide)
  generalize si (si (si yA 48 11 (Int32.ofNat (a2 + 1))) 48 14 (Int32.ofNat (h + 1))) 48 14 (Int32.ofNat h) = zA at tkc O1 q11
  generalize si (si (si yM 0 128 (Int32.ofNat (b2 + 1))) 0 130 (Int32.ofNat (sp + 1))) 0 130 (Int32.ofNat sp) = zM at stc O2 q28
  cases ht : twR sg w1 v2 with
  | none =>
    rw [ht] at tkc stc
    dsimp only at tkc stc
    obtain ⟨B, pr, de, fu, j1, j2, j3, j4, j5, j6, j7, j8⟩ := id J2
    refine J2.fin hE (k := 1) (by decide) (TKS.one hd.2.2.2.2 tkc) (SPS.one hR stc) (by omega) (f := 2) ⟨gi_si0 _ _ _ _, by decide⟩ (Or.inr (Or.inl ⟨gi_si0 _ _ _ _, by decide, by decide⟩)) (j4.off (OFF.tr (OFF.si (P := fun k j => k = 48 ∧ (j = 10 ∨ j = 11 ∨ j = 14)) (by omega)) (O1.mono fun k j p => by omega)) (fun k j p => by omega)) (j6.off (OFF.tr (OFF.si (P := fun k j => k = 0 ∧ (j = 140 ∨ j = 128 ∨ j = 130)) (by omega)) (O2.mono fun k j p => by omega)) (fun k j p => by omega)) (fun j p1 p2 => ?_) (OFF.tr (OFF.si (by unfold PZA; omega)) (O1.mono fun k j p => by unfold PZA; omega)) (OFF.tr (OFF.si (by unfold PZR; omega)) (O2.mono fun k j p => by unfold PZR; omega))
    rw [gl_si, gl_si, (O1 55 j (by omega)).2, (O2 86 j (by omega)).2]
    exact j7 j p1 p2
  | some v =>
    rw [ht] at tkc stc
    dsimp only at tkc stc
    have OA : OFF (PSK h) (pshQ zA h v) yA := OFF.tr pshQ_off (O1.mono fun k j p => Or.inl p)
    have OM : OFF (PSO sp) (pshM zM sp v) yM := OFF.tr pshM_off (O2.mono fun k j p => Or.inl p)
    have J3 : JS E K (K.2.2 5) (a2 + 1) (b2 + 1) (h + 1) (sp + 1) sc x1 (i + 1) (pshQ zA h v) (pshM zM sp v) := by
      refine J2.mv hlow OA OM ?_ (gi_si0 _ _ _ _) ?_ (gi_si0 _ _ _ _) (by omega) ⟨by omega, hx.2⟩
      · unfold pshQ; rw [gi_si1 (by omega), gi_sl]; exact q11
      · unfold pshM; rw [gi_si1 (by omega), gi_sl]; exact q28
    exact J3.go hE (TKS.one hd.2.2.2.2 tkc) (SPS.one hR stc) (by omega) (g _ _ v J3 pshQ_v pshM_v (twR_ty hs ht) OA OM)
/-- the class alone jumps -/
theorem JS.jcl (hE : EOKS E) (H : JS E K (K.2.2 5) a b h sp sc x i wA wM) (hA : K.1[K.2.2 0]? = some A) (hw : gl (cA E) 41 a = jwC 33 a1) (ha : a < eNo E 5 0 ∧ a1 ≤ 36872) (hx : x + 1 ≤ x1 ∧ x1 ≤ KK) (g : ∀ uA, JS E K (K.2.2 5) a1 b h sp sc x1 (i + 1) uA wM → OFF (PSK h) uA wA → GD E (i + 1) uA wM) : GD E i wA wM := by
  have hd := H.dep
  obtain ⟨C, M⟩ := H.cka hA
  have hw' : gl (cA E) 41 a = wdC 33 0 (Int32.ofNat a1) := hw.trans (jwC_wdC (x := 33) (by omega) (by omega))
  have OA : OFF (PSK h) (si (si wA 48 11 (Int32.ofNat (a + 1))) 48 11 (Int32.ofNat a1)) wA := OFF.tr (OFF.si (Or.inl ⟨rfl, Or.inl rfl⟩)) (OFF.si (Or.inl ⟨rfl, Or.inl rfl⟩))
  refine JS.stp (k := 1) (j := 0) (h0 := h) (sp0 := sp) (h1 := h) (sp1 := sp) (a1 := a1) (b1 := b) (x1 := x1) hE H (TKS.one hd.2.2.2.2 (k_jump C ha.1 hw' (by omega))) (show SPS 0 wM wM from rfl) (by omega) H.low OA OFF.rf (gi_si0 _ _ _ _) ?_ M.2.2.1 M.2.2.2.2.1 (by omega) hx (fun J => g _ J OA)
  rw [gi_si1 (by omega), gi_si1 (by omega)]; exact C.2.2.2.2.2.1
/-- the STATEMENT of a for and what's round it -/
def FST (E : SENV) (L : Nat) (K : CXT) (A : ACT) (stk : List Nat) (p sg m1 s0 m2 H b3 x4 e3 : Nat) : Prop := FRE K A sg m1 s0 m2 ∧ (m1 ≤ s0 ∧ s0 ≤ m2 ∧ sg + 1 ≤ eNo E 1 p ∧ m2 + 1 ≤ eNo E 3 p ∧ m2 ≤ 60000) ∧ SIT E L stk p (sg + 1) m1 s0 (m2 + 1) H b3 x4 e3 ∧ gl (cA E) 41 b3 = wdC 38 0 (Int32.ofNat sg) ∧ (∃ Y Z, opW (dM E) e3 29 (Int32.ofNat m2) Y Z) ∧ H ≤ b3 ∧ b3 < eNo E 5 0 ∧ x4 ≤ 60000 ∧ e3 < 60000
/-- a value alone -/
theorem FG.val (hE : EOKS E) (hF : FCX E (L + 1) K A stk p) (hT : FTM K A x0 M) (hV : FVX E L K 1 nx T pl PT PR) (hS : FST E L K A stk p sg m1 s0 m2 H b3 x4 e3) (hv : SIV E L stk p 1 nx (a + 2) v1 b1 b2) (w1 : gl (cA E) 41 a = wdC 40 0 0) (w2 : gl (cA E) 41 (a + 1) = wdC 35 0 (Int32.ofNat pl)) (w3 : gl (cA E) 41 v1 = wdC 26 0 1) (w4 : gl (cA E) 41 (v1 + 1) = wdC 37 0 (Int32.ofNat sg)) (w5 : gl (cA E) 41 (v1 + 2) = jwC 33 H) {X Y Z Y2 Z2 Z3 : Int32} (o1 : opW (dM E) b 12 X Y Z) (hP : PT (b + 1) b1 (dM E)) (o3 : opW (dM E) b2 7 1 Y2 Z2) (o4 : opW (dM E) (b2 + 1) 30 (Int32.ofNat m2) (Int32.ofNat (b2 + 3)) Z3) (o5 : opW (dM E) (b2 + 2) 10 (Int32.ofNat x4) 0 0) (ha : a + 2 ≤ v1 ∧ v1 + 2 < eNo E 5 0) (hb : b < 60000 ∧ b1 < 60000 ∧ b2 + 3 < 60000) (hn : nx + 2 ≤ 502) (hM : M < KK ∧ T + (v1 - a) + 2 ≤ S ∧ S + 4 * (b3 - H) + 2 ≤ M)
    (g : FG E L K A (x0 + M - 1) (v1 + 3) (b2 + 3)) : FG E (L + 1) K A (x0 + M) a b := fun sc x t wA wM J hx hL => by
  obtain ⟨f1, f2, f3, f4, ⟨Y9, Z9, f5⟩, f6, f7, f8, f9⟩ := hS
  refine JS.fst hE hF hT J hV hv w1 w2 w3 o1 hP o3 ⟨ha.1, by omega⟩ ⟨hb.1, hb.2.1, by omega⟩ hn hL ⟨hx, hM.1⟩ (by omega) (fun _ _ uA uM sc' t' J2 l2 => ?_)
  exact JS.fgo (xs := x0 + S) hE (hF.le (by omega)) f1 f2 hT J2 w4 w5 o4 o5 f3 f4 f5 ⟨by omega, f6, f7⟩ ⟨by omega, f8, f9, by omega⟩ l2 ⟨by omega, by omega, by omega, by omega⟩ g
/-- while -/
theorem FG.whi (hE : EOKS E) (hF : FCX E (L + 1) K A stk p) (hT : FTM K A x0 M) (hV : FVX E L K 1 nx T pl PT PR) (hS : FST E L K A stk p sg m1 s0 m2 H b3 x4 e3) (hv : SIV E L stk p 1 nx (a + 2) v1 b1 b2) (hc : SIV E L stk p 2 nx (v1 + 1) u1 (b2 + 1) d1) (w1 : gl (cA E) 41 a = wdC 40 0 0) (w2 : gl (cA E) 41 (a + 1) = wdC 35 0 (Int32.ofNat pl)) (w3 : gl (cA E) 41 v1 = wdC 26 0 1) (w4 : gl (cA E) 41 u1 = jwC 34 (u1 + 4)) (w5 : gl (cA E) 41 (u1 + 1) = wdC 37 0 (Int32.ofNat sg)) (w6 : gl (cA E) 41 (u1 + 2) = jwC 33 H) (w7 : gl (cA E) 41 (u1 + 3) = jwC 33 a) {X Y Z Y2 Z2 Z3 : Int32} (o1 : opW (dM E) b 12 X Y Z) (hP : PT (b + 1) b1 (dM E)) (o3 : opW (dM E) b2 7 1 Y2 Z2) (o4 : opW (dM E) d1 11 (Int32.ofNat (d1 + 3)) 0 0) (o5 : opW (dM E) (d1 + 1) 30 (Int32.ofNat m2) (Int32.ofNat b) Z3) (o6 : opW (dM E) (d1 + 2) 10 (Int32.ofNat x4) 0 0) (ha : a + 2 ≤ v1 ∧ v1 + 1 ≤ u1 ∧ u1 + 4 < eNo E 5 0) (hb : b < 60000 ∧ b1 < 60000 ∧ b2 < 60000 ∧ d1 + 3 < 60000) (hn : nx + 2 ≤ 502) (hM : M < KK ∧ T + (u1 - a) + 3 ≤ S ∧ S + 4 * (b3 - H) + 2 ≤ M)
    (g0 : FG E L K A (x0 + M) a b) (g : FG E L K A (x0 + M - 1) (u1 + 4) (d1 + 3)) : FG E (L + 1) K A (x0 + M) a b := fun sc x t wA wM J hx hL => by
  obtain ⟨f1, f2, f3, f4, ⟨Y9, Z9, f5⟩, f6, f7, f8, f9⟩ := hS
  have hEN := hE.1
  have hT1 := hT.1
  have hT2 := hT.2.1
  refine JS.fst hE hF hT J hV hv w1 w2 w3 o1 hP o3 ⟨ha.1, by omega⟩ ⟨hb.1, hb.2.1, hb.2.2.1⟩ hn hL ⟨hx, hM.1⟩ (by omega) (fun _ _ uA uM sc' t' J2 l2 => ?_)
  obtain ⟨hA, hon, hl, hr, hp, hN, hH, hroom⟩ := hF.le (L := L) (by omega)
  have hd3 : K.2.2 3 = A.1 4 := hN.2.2.1
  refine hc K A (A.1 5) (A.1 6) sc' _ t' uA uM hA hon (fun s hs => by rw [hr]; exact hs) hp J2 hH l2 (by rw [hd3]; omega) (fun j B hB => by have := hT1 j B hB; omega) (by omega) (fun yA yM v sc1 i1 J3 s1 v1' v2' hvt kk => ?_)
  refine J3.cho hE J2.low (v1'.trans v2'.symm) w4 o4 (by omega) ⟨by omega, by omega, by omega⟩ (x1 := x0 + M - 1) ⟨by omega, by omega⟩ (fun zA zM OA OM J4 z => ?_) (fun zA zM OA OM J4 z => ?_)
  · refine JS.fgo (xs := x0 + S) (cap := x0 + M - 1) hE (hF.le (by omega)) f1 f2 hT J4 w5 w6 o5 o6 f3 f4 f5 ⟨by omega, f6, f7⟩ ⟨by omega, f8, f9, by omega⟩ (by omega) ⟨by omega, by omega, by omega, by omega⟩ (fun sc3 x3 t3 qA qM J5 hx3 l3 => ?_)
    exact JS.jcl (x1 := x3 + 1) hE J5 hA w7 ⟨by omega, by omega⟩ ⟨by omega, by omega⟩ (fun rA J6 _ => g0 sc3 (x3 + 1) _ rA qM J6 (by omega) l3)
  · exact g sc1 _ _ zA zM J4 (by omega) (by omega)
end MH7
