/-! BOTH MACHINES: a for: into its STATEMENT and back; its VARIABLE set -/
section MG6
variable {E : SENV} {K : CXT} {Lim p a a1 b b1 b2 h sp sc i el nx L T t sg m1 m2 s0 c e va vm H x4 b3 e3 M v1 pl j k q : Nat} {x x0 xs cap : Int} {stk : List Nat} {ty : Int32} {wA wM uA uM : Wd} {A B : ACT} {G : GHO} {PT PR : Nat → Nat → Wd → Prop}
/-- what's round a for -/
def FCX (E : SENV) (L : Nat) (K : CXT) (A : ACT) (stk : List Nat) (p : Nat) : Prop := K.1[K.2.2 0]? = some A ∧ aOn A ∧ K.1.length = K.2.2 0 + 1 ∧ aK A = stk ∧ aP A = p ∧ LSN E K A ∧ HND E K L ∧ A.1 5 + 502 ≤ 502 * (A.1 4 + 1) ∧ A.1 7 + 1 ≤ 4 * A.1 4 + 4
theorem FCX.le (h : FCX E Lim K A stk p) (hl : L ≤ Lim) : FCX E L K A stk p := by
  obtain ⟨h1, h2, h3, h4, h5, h6, h7, h8⟩ := h
  exact ⟨h1, h2, h3, h4, h5, h6, h7.le hl, h8⟩
/-- .. and its time -/
def FTM (K : CXT) (A : ACT) (x0 : Int) (M : Nat) : Prop := (∀ (j : Nat) (B : ACT), K.1[j]? = some B → x0 + M ≤ aX B) ∧ x0 + M ≤ KK ∧ aX A ≤ x0 + KK ∧ aX A ≤ KK
/-- from word c and code e all ends alike -/
def FG (E : SENV) (L : Nat) (K : CXT) (A : ACT) (cap : Int) (c e : Nat) : Prop := ∀ (sc : Nat) (x : Int) (t : Nat) (wA wM : Wd), JS E K (K.2.2 5) c e (A.1 5) (A.1 6) sc x t wA wM → x ≤ cap → eNo E 5 5 ≤ L + sc → GD E t wA wM
/-- where a for goes on -/
def fcN (A : ACT) (sg s va vm : Nat) : GHO := fun k x q t a m => (k = 2 ∧ x = aF A + sg ∧ q = 0 ∧ t = 0 ∧ a = Int64.ofNat va ∧ m = 0) ∨ (k = 3 ∧ x = 0 ∧ q = aB A + s ∧ t = 0 ∧ a = 0 ∧ m = Int64.ofNat vm)
theorem fcN_dis {tp mt : Nat} (ht : aF A + sg + 1 ≤ tp ∧ 6096 ≤ aF A) (hm : aB A + m2 + 1 ≤ mt ∧ mt ≤ 1048576) : DIS (fcN A sg m2 va vm) tp mt el := by
  refine ⟨fun k x q ty va vm k' x' q' ty' va' vm' g g' e1 e2 e => ?_, fun k x q ty va vm k' x' q' ty' va' vm' g g' e1 e2 e => ?_, fun k x q ty va vm g => ?_⟩
  · rcases g with ⟨g1, g2, g3, g4, g5, g6⟩ | g
    · rcases g' with ⟨f1, f2, f3, f4, f5, f6⟩ | g'
      · exact ⟨by omega, by omega, g4.trans f4.symm, g5.trans f5.symm, g6.trans f6.symm⟩
      · omega
    · omega
  · rcases g with g | ⟨g1, g2, g3, g4, g5, g6⟩
    · omega
    · rcases g' with g' | ⟨f1, f2, f3, f4, f5, f6⟩
      · omega
      · exact ⟨by omega, by omega, g4.trans f4.symm, g5.trans f5.symm, g6.trans f6.symm⟩
  · rcases g with ⟨g1, g2, g3, g4, g5, g6⟩ | ⟨g1, g2, g3, g4, g5, g6⟩
    · exact ⟨by omega, fun _ => ⟨by omega, fun _ => by omega⟩, fun _ => by omega, fun _ => by omega⟩
    · exact ⟨by omega, fun _ => by omega, fun _ => by omega, fun _ => by omega⟩
/-- LINK and GOING, the STATEMENT, BACK -/
theorem JS.fgo (hE : EOKS E) (hF : FCX E L K A stk p) (hFr : FRE K A sg m1 s0 m2) (hbd : m1 ≤ s0 ∧ s0 ≤ m2 ∧ sg + 1 ≤ eNo E 1 p ∧ m2 + 1 ≤ eNo E 3 p ∧ m2 ≤ 60000) (hT : FTM K A x0 M) (J : JS E K (K.2.2 5) c e (A.1 5) (A.1 6) sc x t wA wM) (w1 : gl (cA E) 41 c = wdC 37 0 (Int32.ofNat sg)) (w2 : gl (cA E) 41 (c + 1) = jwC 33 H) {Z : Int32} (o1 : opW (dM E) e 30 (Int32.ofNat m2) (Int32.ofNat vm) Z) (o2 : opW (dM E) (e + 1) 10 (Int32.ofNat x4) 0 0) (hin : SIT E L stk p (sg + 1) m1 s0 (m2 + 1) H b3 x4 e3) (w3 : gl (cA E) 41 b3 = wdC 38 0 (Int32.ofNat sg)) {Y Z2 : Int32} (o3 : opW (dM E) e3 29 (Int32.ofNat m2) Y Z2) (ha : c + 1 < eNo E 5 0 ∧ H ≤ b3 ∧ b3 < eNo E 5 0) (hb : e + 1 < 60000 ∧ x4 ≤ 60000 ∧ e3 < 60000 ∧ vm ≤ 60000) (hL : eNo E 5 5 ≤ L + sc) (hx : x + 2 ≤ xs ∧ x0 ≤ xs ∧ xs + 4 * ((b3 : Int) - H) + 1 ≤ cap ∧ cap ≤ x0 + M) (g : FG E L K A cap (c + 2) vm) : GD E t wA wM := by
  obtain ⟨hA, hon, hl, hr, hp, hN, hH, hroom⟩ := hF
  obtain ⟨t1, t2, t3, t4, t5⟩ := id hN
  rw [hp] at t1 t2
  obtain ⟨C, M1⟩ := J.cka hA
  have hd := J.dep
  have hEN := hE.1
  have act := J.act hA
  obtain ⟨hM, hD⟩ := J.mem
  have h60 := (act.2.2.2.2.2.2.2 hon).f60 hD
  have hmt : K.2.2 2 ≤ 199000 := M1.2.2.2.2.2.2.2.2.2.2.2.2.2.2.2.1
  have hlow := J.low
  have hkst := J.kst
  obtain ⟨_, pr, de, fu, j1, j2, j3, j4, j5, j6, j7, j8, j9, j10, ⟨j11, j12, j13, j14, j15, j16, j17⟩, q1, q2⟩ := id J
  have tk := k_link C (by omega) w1 (by omega)
  have st := rm_going M1 (by omega) o1 act.1.1 (by omega) (by omega)
  have C1 : CK (cA E) (eNo E 5 0) (c + 1) (aF A) (K.2.2 1) (A.1 5) (K.2.2 3) (K.2.2 5) (sl (si wA 48 11 (Int32.ofNat (c + 1))) 50 (aF A + sg) (Int64.ofNat (c + 2))) := (C.nx (c + 1)).st50
  have OA : OFF (fun k j => (k = 48 ∧ j = 11) ∨ (k = 50 ∧ j = aF A + sg)) (sl (si wA 48 11 (Int32.ofNat (c + 1))) 50 (aF A + sg) (Int64.ofNat (c + 2))) wA := OFF.tr (OFF.sl (Or.inr ⟨rfl, rfl⟩)) (OFF.si (Or.inl ⟨rfl, rfl⟩))
  have OM : OFF (fun k j => (k = 0 ∧ j = 128) ∨ (k = 83 ∧ j = aB A + m2)) (sl (si wM 0 128 (Int32.ofNat (e + 1))) 83 (aB A + m2) (Int64.ofNat vm)) wM := OFF.tr (OFF.sl (Or.inr ⟨rfl, rfl⟩)) (OFF.si (Or.inl ⟨rfl, rfl⟩))
  have e0 : ∀ j, j ≠ 128 → gi (sl (si wM 0 128 (Int32.ofNat (e + 1))) 83 (aB A + m2) (Int64.ofNat vm)) 0 j = gi wM 0 j := fun j q => (OM 0 j (by omega)).1
  have MM : MK (dM E) (e + 1) (K.2.2 0) (A.1 6) (K.2.2 4) K.1.length (K.2.2 2) (K.2.2 5) (K.2.2 3) (sl (si wM 0 128 (Int32.ofNat (e + 1))) 83 (aB A + m2) (Int64.ofNat vm)) := by
    obtain ⟨n1, n2, n3, n4, n5, n6, n7, n8, n9, n10, n11, n12, n13, n14, n15, n16, n17, n18⟩ := id M1
    exact M1.nw (OM.mono fun k j p => by omega) (by rw [gi_sl, gi_si0]) ((e0 129 (by omega)).trans n4) ((e0 130 (by omega)).trans n5) ((e0 127 (by omega)).trans n6) ((e0 131 (by omega)).trans n7) ((e0 132 (by omega)).trans n8) ((e0 133 (by omega)).trans n9) ((e0 134 (by omega)).trans n10) ⟨by omega, n12, n13, n14, n15, n16, n17, n18⟩
  have v1 : gl (sl (si wA 48 11 (Int32.ofNat (c + 1))) 50 (aF A + sg) (Int64.ofNat (c + 2))) 50 (aF A + sg) = Int64.ofNat (c + 2) := gl_sl0 _ _ _ _
  have v2 : gl (sl (si wM 0 128 (Int32.ofNat (e + 1))) 83 (aB A + m2) (Int64.ofNat vm)) 83 (aB A + m2) = Int64.ofNat vm := gl_sl0 _ _ _ _
  generalize sl (si wA 48 11 (Int32.ofNat (c + 1))) 50 (aF A + sg) (Int64.ofNat (c + 2)) = uA at tk C1 OA v1
  generalize sl (si wM 0 128 (Int32.ofNat (e + 1))) 83 (aB A + m2) (Int64.ofNat vm) = uM at st MM OM v2 e0
  have hDn : DIS (orG K.2.1 (fcN A sg m2 (c + 2) vm)) (K.2.2 1) (K.2.2 2) (K.2.2 5) := by
    refine hD.or (Nat.le_refl _) (fcN_dis ⟨by omega, h60⟩ ⟨by omega, by omega⟩) (fun k x q ty va vm k' x' q' ty' va' vm' g g' e1 e2 => ?_) (fun k x q ty va vm k' x' q' ty' va' vm' g g' e1 e2 => ?_)
    · have f := (hFr _ _ _ _ _ _ g).1 e1
      rcases g' with g' | g' <;> omega
    · have f := (hFr _ _ _ _ _ _ g).2 e1
      rcases g' with g' | g' <;> omega
  have hm0 : MEM K.2.1 uA uM := by
    refine hM.agr (fun k x q' t va vm gg hk => ?_) (fun k x q' t va vm gg hk => ?_)
    · have f := (hFr _ _ _ _ _ _ gg).1 hk
      exact (OA 50 x (by omega)).2
    · have f := (hFr _ _ _ _ _ _ gg).2 hk
      unfold RMq
      by_cases h9 : q' < 1048576
      · rw [if_pos h9, if_pos h9]; exact (OM 83 q' (by omega)).2
      · rw [if_neg h9, if_neg h9]; exact (OM 84 _ (by omega)).2
  have hmn : MEM (fcN A sg m2 (c + 2) vm) uA uM := by
    intro k x q' t va' vm' gg
    rcases gg with ⟨g1, g2, g3, g4, g5, g6⟩ | ⟨g1, g2, g3, g4, g5, g6⟩
    · exact ⟨fun c => by omega, fun _ => by rw [g2, g5]; exact v1, fun c => by omega⟩
    · refine ⟨fun c => by omega, fun c => by omega, fun _ => ?_⟩
      unfold RMq
      rw [if_pos (by omega), g3, g6]; exact v2
  have J1 : JS E (grK K (orG K.2.1 (fcN A sg m2 (c + 2) vm)) (K.2.2 5)) (K.2.2 5) (c + 1) (e + 1) (A.1 5) (A.1 6) sc (x + 1) (t + 1) uA uM := JS.ch (h0 := A.1 5) (sp0 := A.1 6) J (hkst.gr (fun _ _ _ _ _ _ g => Or.inl g) hDn) (fun j B hB => ⟨B, hB, SMA.rf⟩) hA hon C1 (j4.off OA (fun k j p => by omega)) MM (j6.off OM (fun k j p => by omega)) (fun pr0 de0 fu0 T => T.uq j4) (hm0.or hmn) (OA.mono fun k j p => by omega) (OM.mono fun k j p => by omega) hlow ⟨Nat.le_refl _, Nat.le_refl _, hd.2.2.1⟩ ⟨by omega, by have := hT.2.1; omega⟩
  have hT1 := hT.1
  have hT2 := hT.2.1
  have e1 : c + 1 < eNo E 5 0 := ha.1
  refine J1.go hE (TKS.one hd.2.2.2.2 tk) (SPS.one (M1.runs o1 (by omega) (by decide)) st) (by omega) ?_
  refine JS.jmp (x1 := xs) hE J1 J1.low w2 o2 e1 ⟨hb.1, hb.2.1, by omega⟩ ⟨by omega, by omega⟩ (fun yA yM _ _ J2 => ?_)
  have hF2 : FRE (grK K (orG K.2.1 (fcN A sg m2 (c + 2) vm)) (K.2.2 5)) A (sg + 1) m1 s0 (m2 + 1) := by
    intro k x q' t va' vm' gg
    rcases gg with gg | ⟨g1, g2, g3, g4, g5, g6⟩ | ⟨g1, g2, g3, g4, g5, g6⟩
    · obtain ⟨f1, f2⟩ := hFr _ _ _ _ _ _ gg
      exact ⟨fun hk => by have := f1 hk; omega, fun hk h9 => by have := f2 hk h9; omega⟩
    · exact ⟨fun _ => by omega, fun _ => by omega⟩
    · exact ⟨fun _ => by omega, fun _ _ => by omega⟩
  refine hin (grK K (orG K.2.1 (fcN A sg m2 (c + 2) vm)) (K.2.2 5)) A sc xs _ yA yM hA hon hl hr hp ⟨by rw [hp]; exact t1, by rw [hp]; exact t2, t3, t4, t5⟩ hF2 J2 (hH.gr (fun _ _ _ _ _ _ g => Or.inl g)) hL hroom (fun j B hB => by have := hT1 j B hB; omega) (by omega) (by have := hT.2.2.1; omega) hT.2.2.2 (fun zA zM sc' i' J3 s3 => ?_)
  -- BACK
  have J3 : JS E (grK K (orG K.2.1 (fcN A sg m2 (c + 2) vm)) (K.2.2 5)) (K.2.2 5) b3 e3 (A.1 5) (A.1 6) sc' (xs + 4 * ((b3 : Int) - H)) i' zA zM := J3
  obtain ⟨C3, M3⟩ := J3.cka (A := A) hA
  have C3 : CK (cA E) (eNo E 5 0) b3 (aF A) (K.2.2 1) (A.1 5) (K.2.2 3) (K.2.2 5) zA := C3
  have M3 : MK (dM E) e3 (K.2.2 0) (A.1 6) (K.2.2 4) K.1.length (K.2.2 2) (K.2.2 5) (K.2.2 3) zM := M3
  have hd3 := J3.dep
  obtain ⟨hM3, hD3⟩ := J3.mem
  have r1 : gl zA 50 (aF A + sg) = Int64.ofNat (c + 2) := (hM3 2 _ 0 0 _ 0 (Or.inr (Or.inl ⟨rfl, rfl, rfl, rfl, rfl, rfl⟩))).2.1 (Or.inr rfl)
  have r2 : gl zM 83 (aB A + m2) = Int64.ofNat vm := by
    have := (hM3 3 0 (aB A + m2) 0 0 _ (Or.inr (Or.inr ⟨rfl, rfl, rfl, rfl, rfl, rfl⟩))).2.2 (Or.inr rfl)
    unfold RMq at this
    rw [if_pos (by omega)] at this
    exact this
  obtain ⟨_, pr3, de3, fu3, _, _, _, k4, _, k6, _, _, _, k10, ⟨k11, k12, k13, k14, k15, k16, k17⟩, _, _⟩ := id J3
  have m87 : gi zM 87 (K.2.2 0) = Int32.ofNat (aB A) := (J3.act (B := A) (j := K.2.2 0) hA).1.1
  have tk3 := k_back C3 ha.2.2 w3 (by omega) r1
  have st3 := rm_back M3 hb.2.2.1 o3 m87 (by omega) r2
  have OA3 : OFF (PSK (A.1 5)) (si (si zA 48 11 (Int32.ofNat (b3 + 1))) 48 11 (Int32.ofNat (c + 2))) zA := OFF.tr (OFF.si (Or.inl ⟨rfl, Or.inl rfl⟩)) (OFF.si (Or.inl ⟨rfl, Or.inl rfl⟩))
  have OM3 : OFF (PSO (A.1 6)) (si (si zM 0 128 (Int32.ofNat (e3 + 1))) 0 128 (Int32.ofNat vm)) zM := OFF.tr (OFF.si (Or.inl ⟨rfl, Or.inl rfl⟩)) (OFF.si (Or.inl ⟨rfl, Or.inl rfl⟩))
  have C4 : CK (cA E) (eNo E 5 0) (c + 2) (aF A) (K.2.2 1) (A.1 5) (K.2.2 3) (K.2.2 5) (si (si zA 48 11 (Int32.ofNat (b3 + 1))) 48 11 (Int32.ofNat (c + 2))) := C3.ps OA3 (gi_si0 _ _ _ _) (by rw [gi_si1 (by omega), gi_si1 (by omega)]; exact C3.2.2.2.2.2.1) C3.2.2.2.2.2.2.2.2.2.2.1
  have M4 : MK (dM E) vm (K.2.2 0) (A.1 6) (K.2.2 4) K.1.length (K.2.2 2) (K.2.2 5) (K.2.2 3) (si (si zM 0 128 (Int32.ofNat (e3 + 1))) 0 128 (Int32.ofNat vm)) := M3.ps OM3 (gi_si0 _ _ _ _) (by rw [gi_si1 (by omega), gi_si1 (by omega)]; exact M3.2.2.2.2.1) hb.2.2.2 M3.2.2.2.2.2.2.2.2.2.2.2.2.1
  have hm4 : MEM K.2.1 (si (si zA 48 11 (Int32.ofNat (b3 + 1))) 48 11 (Int32.ofNat (c + 2))) (si (si zM 0 128 (Int32.ofNat (e3 + 1))) 0 128 (Int32.ofNat vm)) := (hM3.sub (fun _ _ _ _ _ _ g => Or.inl g)).agr (fun _ _ _ _ _ _ _ _ => (OA3 50 _ (by unfold PSK; omega)).2) (fun _ _ q _ _ _ _ _ => by
    unfold RMq
    rw [(OM3 83 q (by unfold PSO; omega)).2, (OM3 84 _ (by unfold PSO; omega)).2])
  have J4 : JS E K (K.2.2 5) (c + 2) vm (A.1 5) (A.1 6) sc' cap (i' + 1) (si (si zA 48 11 (Int32.ofNat (b3 + 1))) 48 11 (Int32.ofNat (c + 2))) (si (si zM 0 128 (Int32.ofNat (e3 + 1))) 0 128 (Int32.ofNat vm)) := JS.ch (h0 := A.1 5) (sp0 := A.1 6) J3 hkst (fun j B hB => ⟨B, hB, SMA.rf⟩) hA hon C4 (k4.off OA3 (fun k j p => by unfold PSK at p; omega)) M4 (k6.off OM3 (fun k j p => by unfold PSO at p; omega)) (fun pr0 de0 fu0 T => T.uq k4) hm4 (OA3.mono fun k j p => by unfold PSK at p; omega) (OM3.mono fun k j p => by unfold PSO at p; omega) J3.low ⟨Nat.le_refl _, Nat.le_refl _, hd3.2.2.1⟩ ⟨by omega, by omega⟩
  exact J4.go hE (TKS.one hd3.2.2.2.2 tk3) (SPS.one (M3.runs o3 hb.2.2.1 (by decide)) st3) (by omega) (g sc' _ _ _ _ J4 (Int.le_refl _) s3)
/-- the VARIABLE is set: STEP, place, value, STORE -/
theorem JS.fst (hE : EOKS E) (hF : FCX E (L + 1) K A stk p) (hT : FTM K A x0 M) (J : JS E K (K.2.2 5) a b (A.1 5) (A.1 6) sc x t wA wM) (hV : FVX E L K 1 nx T pl PT PR) (hv : SIV E L stk p 1 nx (a + 2) v1 b1 b2) (w1 : gl (cA E) 41 a = wdC 40 0 0) (w2 : gl (cA E) 41 (a + 1) = wdC 35 0 (Int32.ofNat pl)) (w3 : gl (cA E) 41 v1 = wdC 26 0 1) {X Y Z Y2 Z2 : Int32} (o1 : opW (dM E) b 12 X Y Z) (hP : PT (b + 1) b1 (dM E)) (o3 : opW (dM E) b2 7 1 Y2 Z2) (ha : a + 2 ≤ v1 ∧ v1 < eNo E 5 0) (hb : b < 60000 ∧ b1 < 60000 ∧ b2 < 60000) (hn : nx + 2 ≤ 502) (hL : eNo E 5 5 ≤ L + 1 + sc) (hx : x ≤ x0 + M ∧ M < KK) (hM : T + (v1 - a) ≤ M)
    (g : VPL E L K 1 nx T pl PT → VRD E L K 1 nx T pl PR → ∀ uA uM sc' t', JS E K (K.2.2 5) (v1 + 1) (b2 + 1) (A.1 5) (A.1 6) sc' (x0 + (T + (v1 - a) : Nat)) t' uA uM → eNo E 5 5 ≤ L + sc' → GD E t' uA uM) : GD E t wA wM := by
  obtain ⟨hA, hon, hl, hr, hp, hN, hH, hroom⟩ := id hF
  have hd3 : K.2.2 3 = A.1 4 := hN.2.2.1
  have hd4 : K.2.2 4 = A.1 7 := hN.2.2.2.1
  have hT1 := hT.1
  have hT2 := hT.2.1
  have hst : ∀ s ∈ stk, s ∈ aK A := fun s hs => by rw [hr]; exact hs
  have hHL : HND E K L := hH.le (by omega)
  refine JS.pay (x1 := x0 + 1) hE J hA hon w1 o1 (by omega) hb.1 ⟨by omega, by omega⟩ (fun uA uM hs J1 k0 _ => ?_)
  have hLL : eNo E 5 5 ≤ L + (sc + 1) := by omega
  have hy : VHY E L K nx T (a + 1) (b + 1) (A.1 5) (A.1 6) (sc + 1) (x0 + 1) (t + 1) uA uM := ⟨J1, hLL, by rw [hd3]; omega, by rw [hd3, hd4]; omega, fun j B hB => by have := hT1 j B hB; omega, by omega⟩
  rcases hV with hV | ⟨hV, hR⟩
  · exact hV _ _ _ _ _ _ _ _ _ _ w2 hP (by omega) (by omega) hy
  · refine hV _ _ _ _ _ _ _ _ _ _ w2 hP (by omega) (by omega) hy (fun yA yM sc1 i1 J2 s1 hpp k1 => ?_)
    refine hv K A (A.1 5 + 1) (A.1 6 + 1) sc1 (x0 + 1 + T) i1 yA yM hA hon hst hp J2 hHL (by omega) (by rw [hd3]; omega) (fun j B hB => by have := hT1 j B hB; omega) (by omega) (fun zA zM v sc2 i2 J3 s2 v1' v2' hvt k2 => ?_)
    obtain ⟨xx, q, p1, p2, p3⟩ := hpp
    refine JS.store (l := [(xx, q)]) (h := A.1 5) (sp := A.1 6) (ty := 1) (x1 := x0 + (T + (v1 - a) : Nat)) hE J3 hA J.lod J.dep.2.2.1 ⟨by simp, by simp⟩ (fun q' c hq => ?_) (v1'.trans v2'.symm) (v1'.symm ▸ hvt) w3 o3 ha.2 hb.2.2 ⟨by omega, by omega⟩ (fun tA tM J4 k4 => g hV hR tA tM sc2 _ J4 (by omega))
    have hq0 : q' = 0 := by
      rcases List.getElem?_eq_some_iff.mp hq with ⟨w, _⟩
      simpa using w
    subst hq0
    have : c = (xx, q) := by simpa using hq.symm
    subst this
    exact ⟨(k2.1 _ (by show A.1 5 + 1 - 1 - 0 < A.1 5 + 1; omega)).trans p1, (k2.2.2.1 _ (by show A.1 6 + 1 - 1 - 0 < A.1 6 + 1; omega)).trans p2, p3⟩
end MG6
