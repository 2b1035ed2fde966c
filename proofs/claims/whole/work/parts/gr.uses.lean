/-! BOTH MACHINES: uses -/
section UX
/-- places that a use, its end, a call's mark change -/
def PTA (h d k j : Nat) : Prop := (k = 48 ∧ 10 ≤ j) ∨ (k = 51 ∧ h ≤ j) ∨ (52 ≤ k ∧ k ≤ 54 ∧ d < j) ∨ k = 56
def PTM (s c k j : Nat) : Prop := (k = 0 ∧ 127 ≤ j) ∨ (k = 85 ∧ s ≤ j) ∨ (92 ≤ k ∧ k ≤ 97 ∧ c ≤ j)
/-- all activations began below -/
def LOWD (K : CXT) (h sp dp cp : Nat) : Prop := ∀ (j : Nat) (B : ACT), K.1[j]? = some B → B.1 5 ≤ h ∧ B.1 6 ≤ sp ∧ B.1 4 ≤ dp ∧ B.1 7 ≤ cp
variable {E : SENV} {K K' : CXT} {Lim p nx a a1 b b1 h sp sc i el h1 sp1 sc1 i1 el1 pr de fu n j h0 sp0 dp0 cp0 : Nat} {x x1 : Int} {ty : Int32} {wA wM uA uM : Wd} {v : Int64} {A B : ACT}
theorem JS.lod (H : JS E K el a b h sp sc x i wA wM) : LOWD K h sp (K.2.2 3) (K.2.2 4) := fun j B hB => by
  obtain ⟨n1, n2, n3, n4, n5, n6, n7, n8⟩ := H.act hB
  exact ⟨n3, n4, n2, n5⟩
theorem KEE.pt (hA : OFF (PTA h dp0) uA wA) (hM : OFF (PTM sp cp0) uM wM) (hP : PSD wA uA) : KEE h dp0 sp cp0 wA wM uA uM :=
  ⟨fun j hj => (hA 51 j (by unfold PTA; omega)).2, fun k j p q r => (hA k j (by unfold PTA; omega)).1, fun j hj => (hM 85 j (by unfold PTM; omega)).2, fun k j p q r => (hM k j (by unfold PTM; omega)).1, hP⟩
/-- the same activations and cells, something else at hand -/
theorem JS.tf (H : JS E K el a b h sp sc x i wA wM) (L : LOWD K h0 sp0 dp0 cp0) (e1 : K'.1 = K.1) (e2 : K'.2.1 = K.2.1) (e3 : K'.2.2 1 = K.2.2 1 ∧ K'.2.2 2 = K.2.2 2 ∧ K'.2.2 5 = K.2.2 5) (hA : OFF (PTA h0 dp0) uA wA) (hM : OFF (PTM sp0 cp0) uM wM) (hP : PSD wA uA) (hH : K.1[K'.2.2 0]? = some A) (hon : aOn A) (C : CK (cA E) (eNo E 5 0) a1 (aF A) (K'.2.2 1) h1 (K'.2.2 3) el1 uA) (T : TLY (eNo E 5 5) sc1 pr de fu uA) (M : MK (dM E) b1 (K'.2.2 0) sp1 (K'.2.2 4) K'.1.length (K'.2.2 2) (K'.2.2 5) (K'.2.2 3) uM) (TM : TLM (eNo E 5 5) sc1 pr de fu uM) (hp : ∀ pr0 de0 fu0, TLY (eNo E 5 5) sc pr0 de0 fu0 wA → pr0 = pr) (hb : h0 ≤ h1 ∧ sp0 ≤ sp1 ∧ dp0 ≤ K'.2.2 3 ∧ cp0 ≤ K'.2.2 4 ∧ sp1 ≤ h1 ∧ K'.2.2 4 ≤ 4 * K'.2.2 3 + 4 ∧ K.1.length ≤ K'.2.2 3 + 1) (hx : (i1 : Int) ≤ x1 + KK * sc1 ∧ x1 ≤ KK) : JS E K' el1 a1 b1 h1 sp1 sc1 x1 i1 uA uM := by
  obtain ⟨A', pr', de', fu', j1, j2, j3, j4, j5, j6, j7, j8, j9, j10, ⟨j11, j12, j13, j14, j15, j16, j17⟩, o1, o2⟩ := H
  have ep := hp _ _ _ j4
  refine ⟨A, pr, de, fu, by rw [e1]; exact hH, hon, C, T, M, TM, fun j g1 g2 => ?_, ?_, ?_, fun j B hB => ?_, ?_, OFF.tr (hA.mono fun k j p => by unfold PTA at p; unfold PZA; omega) o1, OFF.tr (hM.mono fun k j p => by unfold PTM at p; unfold PZR; omega) o2⟩
  · rw [(hA 55 j (by unfold PTA; omega)).2, (hM 86 j (by unfold PTM; omega)).2]; exact j7 j (by omega) g2
  · rw [e2]
    refine j8.agr (fun _ _ _ _ _ _ _ _ => (hA 50 _ (by unfold PTA; omega)).2) (fun _ _ q _ _ _ _ _ => ?_)
    unfold RMq
    rw [(hM 83 q (by unfold PTM; omega)).2, (hM 84 _ (by unfold PTM; omega)).2]
  · rw [e2, e3.1, e3.2.1, e3.2.2]; exact j9
  · rw [e1] at hB ⊢
    rw [e2]
    obtain ⟨⟨m1, m2, m3, m4, m5, m6, m7, m8⟩, n1, n2, n3, n4, n5, n6⟩ := j10 j B hB
    obtain ⟨l1, l2, l3, l4⟩ := L j B hB
    have e : ∀ k j, 87 ≤ k → ¬ (92 ≤ k ∧ k ≤ 97) → gi uM k j = gi wM k j := fun k j p q => (hM k j (by unfold PTM; omega)).1
    refine ⟨⟨(e 87 _ (by omega) (by omega)).trans m1, (e 98 _ (by omega) (by omega)).trans m2, (e 88 _ (by omega) (by omega)).trans m3, (e 89 _ (by omega) (by omega)).trans m4, (e 90 _ (by omega) (by omega)).trans m5, (e 91 _ (by omega) (by omega)).trans m6, ?_, m8.tr ((KEE.pt hA hM hP).le l1 l3 l2 l4)⟩, by omega, by omega, by omega, by omega, n5, n6⟩
    refine m7.imp id (fun q => ⟨q.1, q.2.1, q.2.2.1, ?_⟩)
    rw [(hM 96 _ (by unfold PTM; omega)).1]; exact q.2.2.2
  · rw [e1, e3.1, e3.2.1]
    exact ⟨by omega, by omega, hx.1, hx.2, by omega, j16, j17⟩
/-- B's frame at hand, one use deeper -/
def useK (K : CXT) (j : Nat) : CXT := (K.1, K.2.1, fun k => if k = 0 then j else if k = 3 then K.2.2 3 + 1 else if k = 4 then K.2.2 4 + 1 else K.2.2 k)
theorem TLY.uq {al st st' pr' de' fu' : Nat} {w : Wd} (T : TLY al st pr de fu w) (T' : TLY al st' pr' de' fu' w) : pr = pr' := by
  obtain ⟨t1, t2, t3, t4, t5, t6, t7, t8, t9, t10⟩ := T
  obtain ⟨s1, s2, s3, s4, s5, s6, s7, s8, s9, s10⟩ := T'
  exact (eq_iN (by omega) (by omega)).mp (t3.symm.trans s3)
/-- a use begins -/
theorem JS.us (hE : EOKS E) {ta t q c : Nat} {m m' : Int32} (H : JS E K (K.2.2 5) a b (h + 2) sp sc x i wA wM) (hA : K.1[K.2.2 0]? = some A) (tk : fX3_tick wA = some (fX3_use m (si wA 48 11 (Int32.ofNat (a + 1))))) (st : fX12_step wM = fX12_use (Int32.ofNat q) m' (si wM 0 128 (Int32.ofNat (b + 1)))) (hR : RUNS wM) (v1 : gl wA 51 h = Int64.ofNat ta) (v2 : gl wA 51 (h + 1) = Int64.ofNat (aF B)) (g1 : gl wM 83 q = Int64.ofNat t) (g2 : gl wM 83 (q + 1) = Int64.ofNat j) (hq : q + 1 < 200000) (hB : K.1[j]? = some B) (hon : aOn B) (ht : t < 6000) (hcd : gi (dM E) 47 t = Int32.ofNat c) (hc9 : c ≤ 60000) (ha : a < eNo E 5 0) (hb : b < 60000) (L : LOWK K h sp) (hsp : sp ≤ h) (hx : x + 1 ≤ KK)
    (g4 : m' = 1 → gi (dM E) 48 t = 0 → m = 1 ∧ gl (cA E) 41 ta = wdC 48 0 0 ∧ ta < eNo E 5 0)
    (g : ¬ (m' = 1 ∧ gi (dM E) 48 t = 0) → sc < eNo E 5 5 → K.2.2 3 < 60 → ∀ uA uM, JS E (useK K j) (K.2.2 5) ta c h sp (sc + 1) (x + 1 - KK) (i + 1) uA uM → gi uA 52 (K.2.2 3 + 1) = m → gi uA 53 (K.2.2 3 + 1) = Int32.ofNat (a + 1) → gi uA 54 (K.2.2 3 + 1) = Int32.ofNat (aF A) → CTM (K.2.2 4) (b + 1) (K.2.2 0) m' (-1) (K.2.2 3) uM → OFF (PTA h (K.2.2 3)) uA wA → OFF (PTM sp (K.2.2 4)) uM wM → PSD wA uA → GD E (i + 1) uA uM) : GD E i wA wM := by
  have hd := H.dep
  obtain ⟨C, M⟩ := H.cka hA
  obtain ⟨_, pr, de, fu, j1, j2, j3, j4, j5, j6, j7, j8, j9, j10, ⟨j11, j12, j13, j14, j15, j16, j17⟩, o1, o2⟩ := id H
  have N1 := C.nx (a + 1)
  have T1 : TLY (eNo E 5 5) sc pr de fu (si wA 48 11 (Int32.ofNat (a + 1))) := j4.nx
  have M1 := M.nx (b1 := b + 1) (by omega)
  have TM1 : TLM (eNo E 5 5) sc pr de fu (si wM 0 128 (Int32.ofNat (b + 1))) := j6.nx
  have P0 : OFF (fun k j => k = 48 ∧ j = 11) (si wA 48 11 (Int32.ofNat (a + 1))) wA := OFF.si ⟨rfl, rfl⟩
  have Q0 : OFF (fun k j => k = 0 ∧ j = 128) (si wM 0 128 (Int32.ofNat (b + 1))) wM := OFF.si ⟨rfl, rfl⟩
  obtain ⟨_, _, _, _, _, _, t7, t8, t9, t10, t11⟩ := id j4
  have hN := hE.2.1
  have hpr : ∀ {u v : Wd}, OFF PEN u (si wA 48 11 (Int32.ofNat (a + 1))) → OFF PEM v (si wM 0 128 (Int32.ofNat (b + 1))) → ∀ j, j < pr → j < 500 → gl u 55 j = gl v 86 j := fun {u v} OA OM j p1 p2 => by
    rw [(OA 55 j (by unfold PEN; omega)).2, (OM 86 j (by unfold PEM; omega)).2, gl_si, gl_si]; exact j7 j p1 p2
  have oA : ∀ {u : Wd}, OFF PEN u (si wA 48 11 (Int32.ofNat (a + 1))) → OFF PZA u wA := fun {u} O => OFF.tr (O.mono fun k j p => by unfold PEN at p; unfold PZA; omega) (P0.mono fun k j p => by unfold PZA; omega)
  have oM : ∀ {u : Wd}, OFF PEM u (si wM 0 128 (Int32.ofNat (b + 1))) → OFF PZR u wM := fun {u} O => OFF.tr (O.mono fun k j p => by unfold PEM at p; unfold PZR; omega) (Q0.mono fun k j p => by unfold PZR; omega)
  by_cases hs : sc = eNo E 5 5
  · obtain ⟨u, u1, u2, u3, u4⟩ := us0 N1 T1 (m := m) hs
    obtain ⟨y, y1, y2, y3, y4⟩ := um0 TM1 (x := Int32.ofNat q) (y := m') hs
    exact H.fin hE (k := 1) (by decide) (TKS.one hd.2.2.2.2 (tk.trans (congrArg some u1))) (SPS.one hR (st.trans y1)) (by omega) u2 (Or.inl ⟨y2, rfl⟩) u3 y3 (hpr u4 y4) (oA u4) (oM y4)
  have hs' : sc < eNo E 5 5 := by omega
  by_cases h6 : K.2.2 3 = 60
  · rw [h6] at N1 M1
    obtain ⟨u, u1, u2, u3, u4⟩ := us6 N1 T1 (m := m) hs'
    obtain ⟨y, y1, y2, y3, y4⟩ := um6 M1 TM1 (x := Int32.ofNat q) (y := m') hs' (by omega)
    exact H.fin hE (k := 1) (by decide) (TKS.one hd.2.2.2.2 (tk.trans (congrArg some u1))) (SPS.one hR (st.trans y1)) (by omega) u2 (Or.inr (Or.inl ⟨y2, by decide, by decide⟩)) u3 y3 (hpr u4 y4) (oA u4) (oM y4)
  have hfB : aF B ≤ 109186 := by
    obtain ⟨⟨Lk, _, _, gF, _⟩, _⟩ := (H.act hB).2.2.2.2.2.2.2 hon
    have := (H.mem.2.2.2 _ _ _ _ _ _ gF).2.1 (by omega) |>.1
    have := C.2.2.2.2.2.2.2.2.2.1
    omega
  obtain ⟨u, u1, u2, u3, u4, u5, u6, u7⟩ := us1 N1 T1 (m := m) v1 v2 hs' (by omega) hfB
  have tku : fX3_tick wA = some u := tk.trans (congrArg some u1)
  by_cases h4 : m' = 1 ∧ gi (dM E) 48 t = 0
  · obtain ⟨e1, e2, e3⟩ := g4 h4.1 h4.2
    obtain ⟨y, y1, y2, y3, y4⟩ := um4 M1 TM1 hs' (by omega) (by omega) (by omega) (q := q) (by omega) g1 ht h4.2
    have tk2 := k_nplace u2 e3 e2
    rw [if_pos (u4.trans e1)] at tk2
    have U2 : OFF PEN (si (si u 48 11 (Int32.ofNat (ta + 1))) 48 10 4) (si wA 48 11 (Int32.ofNat (a + 1))) := OFF.tr (OFF.si (by unfold PEN; omega)) (OFF.tr (OFF.si (by unfold PEN; omega)) (u7.mono fun k j p => by unfold PUS at p; unfold PEN; omega))
    exact H.fin hE (k := 2) (by decide) (TKS.tr (TKS.one hd.2.2.2.2 tku) (TKS.one u2.2.1 tk2)) (SPS.one hR (by rw [st, h4.1]; exact y1)) (by omega) ⟨gi_si0 _ _ _ _, by decide⟩ (Or.inr (Or.inl ⟨y2, by decide, by decide⟩)) (u3.nx.en) y3 (hpr U2 y4) (oA U2) (oM y4)
  obtain ⟨y, y1, y2, y3, y4, y5⟩ := um1 M1 TM1 hs' (by omega) (by omega) (by omega) (by omega) (md := m') hq g1 g2 ht h4 hcd hc9 (by have := (H.act hB).2.2.2.2.2.2.1; omega)
  have OA : OFF (PTA h (K.2.2 3)) u wA := OFF.tr (u7.mono fun k j p => by unfold PUS at p; unfold PTA; omega) (P0.mono fun k j p => by unfold PTA; omega)
  have OM : OFF (PTM sp (K.2.2 4)) y wM := OFF.tr (y5.mono fun k j p => by unfold PUM at p; unfold PTM; omega) (Q0.mono fun k j p => by unfold PTM; omega)
  have J : JS E (useK K j) (K.2.2 5) ta c h sp (sc + 1) (x + 1 - KK) (i + 1) u y := by
    refine JS.tf (A := B) H (fun j B hB => ⟨(L j B hB).1, (L j B hB).2, (H.lod j B hB).2.2⟩) rfl rfl ⟨rfl, rfl, rfl⟩ OA OM (j4.psd u3 (by omega)) hB hon u2 u3 y2 y3 (fun pr0 de0 fu0 T => T.uq j4) ?_ ⟨?_, by omega⟩
    · refine ⟨Nat.le_refl _, Nat.le_refl _, Nat.le_succ _, Nat.le_succ _, hsp, ?_, ?_⟩
      · show K.2.2 4 + 1 ≤ 4 * (K.2.2 3 + 1) + 4
        omega
      · show K.1.length ≤ K.2.2 3 + 1 + 1
        omega
    · have : ((KK * (sc + 1) : Nat) : Int) = KK * sc + KK := by rw [Nat.mul_add, Nat.mul_one]; omega
      have e : (KK : Int) * ((sc + 1 : Nat) : Int) = KK * sc + KK := by
        have := Int.mul_add (KK : Int) sc 1
        rw [Int.mul_one] at this
        exact this
      rw [e]; omega
  exact J.go hE (TKS.one hd.2.2.2.2 tku) (SPS.one hR (st.trans y1)) (by omega) (g h4 hs' (by omega) u y J u4 u5 u6 y4 OA OM (j4.psd u3 (by omega)))
end UX
