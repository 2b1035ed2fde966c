/-! BOTH MACHINES: within a BLOCK, and its end -/
section MA0
variable {E : SENV} {K : CXT} {Lim p a a0 a1 a2 b b1 b2 b3 h sp sc i i0 i1 i2 el s bk sg W m1 m1' s0 m2 y q0 tp mt nb j nx t kp : Nat} {x x1 : Int} {wA wM uA uM : Wd} {A B : ACT} {G G' N : GHO} {stk : List Nat}
/-- the activation within SCOPE s, a BLOCK's -/
def inA (A : ACT) (s el : Nat) : ACT := (fun k => if k = 100 + s then el else A.1 k, s :: aK A, A.2.2)
def keN (A : ACT) (sg q0 el : Nat) : GHO := fun k x q t va vm => k = 1 ∧ x = aF A + sg ∧ q = aB A + q0 + 1 ∧ t = 0 ∧ va = Int64.ofNat el ∧ vm = Int64.ofNat el
def inK (K : CXT) (A : ACT) (s sg q0 : Nat) : CXT := newK K (inA A s (K.2.2 5)) (orG K.2.1 (keN A sg q0 (K.2.2 5))) (K.2.2 5)
theorem inA_sma : SMA A (inA A s el) := ⟨fun k hk => if_neg (by omega), rfl⟩
theorem inA_alk : ALK A (inA A s el) := inA_sma.alk (fun _ h => List.mem_cons_of_mem _ h)
theorem inA_s : (inA A s el).1 (100 + s) = el := if_pos rfl
theorem inA_o (h : s ∉ aK A) : ∀ t ∈ aK A, (inA A s el).1 (100 + t) = A.1 (100 + t) := fun t ht => if_neg (fun e => h (by
  have : t = s := by omega
  rw [← this]; exact ht))
theorem inK_no (k : Nat) : (inK K A s sg q0).2.2 k = K.2.2 k := by
  show (if k = 5 then K.2.2 5 else K.2.2 k) = K.2.2 k
  by_cases z : k = 5
  · rw [if_pos z, z]
  · rw [if_neg z]
theorem inK_len (hl : K.1.length = K.2.2 0 + 1) : (inK K A s sg q0).1.length = K.1.length := newK_len hl
theorem inK_at (hl : K.1.length = K.2.2 0 + 1) : (inK K A s sg q0).1[(inK K A s sg q0).2.2 0]? = some (inA A s (K.2.2 5)) := newK_at hl
theorem inK_cf (hA : K.1[K.2.2 0]? = some A) (hl : K.1.length = K.2.2 0 + 1) : ∀ (j : Nat) (B : ACT), (inK K A s sg q0).1[j]? = some B → ∃ B0, K.1[j]? = some B0 ∧ SMA B0 B := fun j B hB => by
  rcases newK_old hl hB with ⟨_, q⟩ | ⟨q1, q2⟩
  · exact ⟨B, q, SMA.rf⟩
  · subst q1
    subst q2
    exact ⟨A, hA, inA_sma⟩
theorem inK_cb (hA : K.1[K.2.2 0]? = some A) (hl : K.1.length = K.2.2 0 + 1) : ∀ (j : Nat) (B : ACT), K.1[j]? = some B → ∃ B0, (inK K A s sg q0).1[j]? = some B0 ∧ SMA B0 B := fun j B hB => by
  by_cases e : j = K.2.2 0
  · subst e
    have := Option.some.inj (hA.symm.trans hB)
    subst this
    exact ⟨_, inK_at hl, ⟨fun k hk => (inA_sma.1 k hk).symm, rfl⟩⟩
  · have hj : j < K.2.2 0 := by
      rcases List.getElem?_eq_some_iff.mp hB with ⟨z, _⟩
      omega
    exact ⟨B, newK_of hl hB hj, SMA.rf⟩
theorem keN_dis (hB : BLS E s p bk sg W m1 m1') (ht : aF A + eNo E 1 p ≤ tp ∧ 6096 ≤ aF A) (hm : aB A + eNo E 3 p ≤ mt ∧ mt ≤ 1048576) : DIS (keN A sg (nd (vM E) 41 bk) el) tp mt el := by
  obtain ⟨_, ⟨w1, w2, w3, w4, w5, w6⟩, ⟨r1, r2⟩, _⟩ := hB
  refine ⟨fun k x q ty va vm k' x' q' ty' va' vm' ⟨g1, g2, g3, g4, g5, g6⟩ ⟨f1, f2, f3, f4, f5, f6⟩ e1 e2 e => ⟨by omega, by omega, g4.trans f4.symm, g5.trans f5.symm, g6.trans f6.symm⟩, fun k x q ty va vm k' x' q' ty' va' vm' ⟨g1, g2, g3, g4, g5, g6⟩ ⟨f1, f2, f3, f4, f5, f6⟩ e1 e2 e => ⟨by omega, by omega, g4.trans f4.symm, g5.trans f5.symm, g6.trans f6.symm⟩, fun k x q ty va vm ⟨g1, g2, g3, g4, g5, g6⟩ => ⟨by omega, fun _ => ⟨by omega, fun _ => by omega⟩, fun _ => by omega, fun _ => by omega⟩⟩
theorem DIS.kep (h : DIS G tp mt el) (hF : FRW G (aF A + sg) (aB A + q0 + 1) 1) (hN : DIS (keN A sg q0 el) tp mt el) : DIS (orG G (keN A sg q0 el)) tp mt el := by
  refine h.or (Nat.le_refl _) hN (fun k x q ty va vm k' x' q' ty' va' vm' g ⟨f1, f2, f3, f4, f5, f6⟩ e1 e2 => ?_) (fun k x q ty va vm k' x' q' ty' va' vm' g ⟨f1, f2, f3, f4, f5, f6⟩ e1 e2 => ?_)
  · have := (hF _ _ _ _ _ _ g).1 e1; omega
  · have := (hF _ _ _ _ _ _ g).2 e1; omega
/-- what's static of a BLOCK's context -/
theorem KST.blk (hK : KST E K) (hA : K.1[K.2.2 0]? = some A) (hon : aOn A) (hl : K.1.length = K.2.2 0 + 1) (hp : aP A = p) (hB : BLS E s p bk sg W m1 m1') (ht : K.2.2 1 = aF A + eNo E 1 p ∧ K.2.2 2 = aB A + eNo E 3 p ∧ K.2.2 2 ≤ 1048576) (hD : DCI E K A s bk i sg W m1' s0 m2) (hi : ∀ y ∈ eSL E s, gi (vM E) 19 y = 2 → y < i) (hu : UPM (eNo E 5 6) (vM E) (s :: aK A)) (hlen : (s :: aK A).length < 9000) (hns : s ∉ aK A) (hkv : kvO E A (aK A) ≤ K.2.2 5) : KST E (inK K A s sg (nd (vM E) 41 bk)) := by
  have S := (hK.2.1 _ A hA).2.2.2 hon
  obtain ⟨⟨s1, s2, s3, s4, s5⟩, ⟨w1, w2, w3, w4, w5, w6⟩, ⟨r1, r2⟩, hyb, hyy, _⟩ := id hB
  have h60 := S.f60 hK.1
  obtain ⟨d1, d2, d3, d4, d5⟩ := hD
  have ha : ALK A (inA A s (K.2.2 5)) := inA_alk
  have hDn := hK.1.kep d4 (keN_dis (A := A) (el := K.2.2 5) (tp := K.2.2 1) (mt := K.2.2 2) hB ⟨by omega, h60⟩ ⟨by omega, by omega⟩)
  refine hK.nk hA hon hl ha (fun _ _ _ _ _ _ g => Or.inl g) hDn ?_
  refine S.in (newK_exa hA hl ha) (fun _ _ _ _ _ _ g => Or.inl g) ha rfl (inA_o hns) (by rw [hp]; exact s1) hu hlen (fun y y1 => ?_) (fun bk' e1 e2 => ?_)
  · obtain ⟨y2, y3, y4, y5, y6⟩ := hyb y y1
    unfold SYC
    rw [ha.eF, ha.eB]
    refine ⟨fun c1 c2 => Or.inl (d2 y y1 c1 c2), fun c1 c2 => Or.inl (S.2.2.2.2.2.2.2.2.2.2.2 y y3 c1 c2), fun c1 => ((d1 y y1 c1).1 (hi y y1 c1)).mono (fun _ _ _ _ _ _ g => Or.inl g), fun c => absurd c y2, fun c => absurd c y2, fun c => absurd c y2, fun c => absurd c y2, fun c => absurd c y2, fun c => absurd c y2⟩
  · have e : bk' = bk := (eq_iN (by omega) (by omega)).mp (e1.symm.trans s2)
    subst e
    rw [s4, inA_s]
    exact ⟨Or.inr ⟨rfl, rfl, rfl, rfl, rfl, rfl⟩, Or.inl d5, hkv⟩
/-- KEEP and TOP -/
theorem JS.kpt (hE : EOKS E) (H : JS E K (K.2.2 5) a b (A.1 5) (A.1 6) sc x i wA wM) (hA : K.1[K.2.2 0]? = some A) (hon : aOn A) (hl : K.1.length = K.2.2 0 + 1) (hp : aP A = p) (hB : BLS E s p bk sg W m1 m1') (ht : K.2.2 1 = aF A + eNo E 1 p ∧ K.2.2 2 = aB A + eNo E 3 p) (hF : FRW K.2.1 (aF A + sg) (aB A + nd (vM E) 41 bk + 1) 1) (hK : KST E (inK K A s sg (nd (vM E) 41 bk))) (hw : gl (cA E) 41 a = wdC 31 0 (Int32.ofNat sg)) {Y Z : Int32} (ho : opW (dM E) b 26 (Int32.ofNat bk) Y Z) (ha : a < eNo E 5 0) (hb : b < 60000) (hx : x + 1 ≤ x1 ∧ x1 ≤ KK)
    (g : ∀ uA uM, JS E (inK K A s sg (nd (vM E) 41 bk)) (K.2.2 5) (a + 1) (b + 1) (A.1 5) (A.1 6) sc x1 (i + 1) uA uM → GD E (i + 1) uA uM) : GD E i wA wM := by
  obtain ⟨C, M⟩ := H.cka hA
  have hd := H.dep
  have act := H.act hA
  obtain ⟨hM, hD⟩ := H.mem
  have hmt : K.2.2 2 ≤ 199000 := M.2.2.2.2.2.2.2.2.2.2.2.2.2.2.2.1
  have hel : K.2.2 5 ≤ 2000 := M.2.2.2.2.2.2.2.2.2.2.2.2.2.2.2.2.1
  obtain ⟨⟨s1, s2, s3, s4, s5⟩, ⟨w1, w2, w3, w4, w5, w6⟩, ⟨r1, r2⟩, _⟩ := id hB
  obtain ⟨_, pr, de, fu, j1, j2, j3, j4, j5, j6, j7, j8, j9, j10, ⟨j11, j12, j13, j14, j15, j16, j17⟩, o1, o2⟩ := id H
  have tk := k_keep C ha hw (by omega)
  have st := rm_top M hb ho s3 act.1.1 s5 (by omega)
  have C1 : CK (cA E) (eNo E 5 0) (a + 1) (aF A) (K.2.2 1) (A.1 5) (K.2.2 3) (K.2.2 5) (sl (si wA 48 11 (Int32.ofNat (a + 1))) 50 (aF A + sg) (Int64.ofNat (K.2.2 5))) := (C.nx (a + 1)).st50
  have OA : OFF (fun k j => (k = 48 ∧ j = 11) ∨ (k = 50 ∧ j = aF A + sg)) (sl (si wA 48 11 (Int32.ofNat (a + 1))) 50 (aF A + sg) (Int64.ofNat (K.2.2 5))) wA := OFF.tr (OFF.sl (Or.inr ⟨rfl, rfl⟩)) (OFF.si (Or.inl ⟨rfl, rfl⟩))
  have OM : OFF (fun k j => (k = 0 ∧ j = 128) ∨ (k = 83 ∧ j = aB A + nd (vM E) 41 bk + 1)) (sl (si wM 0 128 (Int32.ofNat (b + 1))) 83 (aB A + nd (vM E) 41 bk + 1) (Int64.ofNat (K.2.2 5))) wM := OFF.tr (OFF.sl (Or.inr ⟨rfl, rfl⟩)) (OFF.si (Or.inl ⟨rfl, rfl⟩))
  have e0 : ∀ j, j ≠ 128 → gi (sl (si wM 0 128 (Int32.ofNat (b + 1))) 83 (aB A + nd (vM E) 41 bk + 1) (Int64.ofNat (K.2.2 5))) 0 j = gi wM 0 j := fun j q => (OM 0 j (by omega)).1
  have M1 : MK (dM E) (b + 1) (K.2.2 0) (A.1 6) (K.2.2 4) K.1.length (K.2.2 2) (K.2.2 5) (K.2.2 3) (sl (si wM 0 128 (Int32.ofNat (b + 1))) 83 (aB A + nd (vM E) 41 bk + 1) (Int64.ofNat (K.2.2 5))) := by
    obtain ⟨n1, n2, n3, n4, n5, n6, n7, n8, n9, n10, n11, n12, n13, n14, n15, n16, n17, n18⟩ := id M
    exact M.nw (OM.mono fun k j p => by omega) (by rw [gi_sl, gi_si0]) ((e0 129 (by omega)).trans n4) ((e0 130 (by omega)).trans n5) ((e0 127 (by omega)).trans n6) ((e0 131 (by omega)).trans n7) ((e0 132 (by omega)).trans n8) ((e0 133 (by omega)).trans n9) ((e0 134 (by omega)).trans n10) ⟨by omega, n12, n13, n14, n15, n16, n17, n18⟩
  have v1 : gl (sl (si wA 48 11 (Int32.ofNat (a + 1))) 50 (aF A + sg) (Int64.ofNat (K.2.2 5))) 50 (aF A + sg) = Int64.ofNat (K.2.2 5) := gl_sl0 _ _ _ _
  have v2 : gl (sl (si wM 0 128 (Int32.ofNat (b + 1))) 83 (aB A + nd (vM E) 41 bk + 1) (Int64.ofNat (K.2.2 5))) 83 (aB A + nd (vM E) 41 bk + 1) = Int64.ofNat (K.2.2 5) := gl_sl0 _ _ _ _
  generalize sl (si wA 48 11 (Int32.ofNat (a + 1))) 50 (aF A + sg) (Int64.ofNat (K.2.2 5)) = uA at tk C1 OA v1
  generalize sl (si wM 0 128 (Int32.ofNat (b + 1))) 83 (aB A + nd (vM E) 41 bk + 1) (Int64.ofNat (K.2.2 5)) = uM at st M1 OM v2 e0
  have hm0 : MEM K.2.1 uA uM := by
    refine hM.agr (fun k x q' t va vm gg hk => ?_) (fun k x q' t va vm gg hk => ?_)
    · have f := (hF _ _ _ _ _ _ gg).1 hk
      exact (OA 50 x (by omega)).2
    · have f := (hF _ _ _ _ _ _ gg).2 hk
      unfold RMq
      rw [(OM 83 q' (by omega)).2, (OM 84 _ (by omega)).2]
  have hmn : MEM (keN A sg (nd (vM E) 41 bk) (K.2.2 5)) uA uM := by
    intro k x q' t va vm ⟨g1, g2, g3, g4, g5, g6⟩
    refine ⟨fun c => by omega, fun _ => by rw [g2, g5]; exact v1, fun _ => ?_⟩
    unfold RMq
    rw [if_pos (by omega), g3, g6]; exact v2
  have J : JS E (inK K A s sg (nd (vM E) 41 bk)) (K.2.2 5) (a + 1) (b + 1) (A.1 5) (A.1 6) sc x1 (i + 1) uA uM := by
    refine JS.ch (h0 := A.1 5) (sp0 := A.1 6) (A := inA A s (K.2.2 5)) H hK (inK_cf hA hl) (inK_at hl) (inA_sma.on.mpr hon) ?_ (j4.off OA (fun k j p => by omega)) ?_ (j6.off OM (fun k j p => by omega)) (fun pr0 de0 fu0 T => T.uq j4) (hm0.or hmn) (OA.mono fun k j p => by omega) (OM.mono fun k j p => by omega) (fun q B hq => ?_) ⟨Nat.le_refl _, Nat.le_refl _, hd.2.2.1⟩ ⟨by omega, hx.2⟩
    · rw [inK_no, inK_no, inA_alk.eF]; exact C1
    · rw [inK_no, inK_no, inK_no, inK_no, inK_no, inK_len hl]; exact M1
    · exact H.low q B hq
  exact J.go hE (TKS.one hd.2.2.2.2 tk) (SPS.one (M.runs ho hb (by decide)) st) (by omega) (g uA uM J)
/-- LEVEL and EXIT: back in what's round the BLOCK -/
theorem JS.bex (hE : EOKS E) (hBk : ∀ s, s < eNo E 5 6 → gi (vM E) 17 s = -1 ∨ ∃ bk, gi (vM E) 17 s = Int32.ofNat bk ∧ bk < 9000) {K2 : CXT} (H : JS E (inK K2 A s sg (nd (vM E) 41 bk)) el a b (A.1 5) (A.1 6) sc x i wA wM) (hA2 : K2.1[K2.2.2 0]? = some A) (hon : aOn A) (hl2 : K2.1.length = K2.2.2 0 + 1) (hp : aP A = p) (hns : s ∉ aK A) (hK : KST E K) (e1 : K2.1 = K.1) (e2 : ∀ k, k ≠ 5 → K2.2.2 k = K.2.2 k) (e3 : ∀ k x q ty va vm, K.2.1 k x q ty va vm → K2.2.1 k x q ty va vm) (hs3 : K2.2.1 3 0 (aB A + nd (vM E) 41 bk) 0 0 (Int64.ofNat (kvO E A (aK A)))) (hkv : K.2.2 5 = kvO E A (aK A) ∧ K.2.2 5 ≤ 2000) (hbk : bk < 9000 ∧ gi (dM E) 41 bk = Int32.ofNat (nd (vM E) 41 bk) ∧ nd (vM E) 41 bk ≤ 60000 ∧ aB A + nd (vM E) 41 bk < 200000) (hw : gl (cA E) 41 a = wdC 32 0 (Int32.ofNat (kpO E p (aK A)))) {Y Z : Int32} (ho : opW (dM E) b 27 (Int32.ofNat bk) Y Z) (ha : a < eNo E 5 0) (hb : b < 60000) (hx : x + 1 ≤ x1 ∧ x1 ≤ KK)
    (g : ∀ uA uM, JS E K (K.2.2 5) (a + 1) (b + 1) (A.1 5) (A.1 6) sc x1 (i + 1) uA uM → GD E (i + 1) uA uM) : GD E i wA wM := by
  have hat := inK_at (A := A) (s := s) (sg := sg) (q0 := nd (vM E) 41 bk) hl2
  have hon' : aOn (inA A s (K2.2.2 5)) := inA_sma.on.mpr hon
  have ha' : ALK A (inA A s (K2.2.2 5)) := inA_alk
  obtain ⟨C, M⟩ := H.cka hat
  rw [ha'.eF, inK_no, inK_no] at C
  rw [inK_no, inK_no, inK_no, inK_no, inK_no, inK_len hl2] at M
  have hd := H.dep
  rw [inK_no] at hd
  have act := H.act hat
  have S := act.2.2.2.2.2.2.2 hon'
  have hm87 : gi wM 87 (K2.2.2 0) = Int32.ofNat (aB A) := by
    have := act.1.1
    rw [ha'.eB, inK_no] at this
    exact this
  obtain ⟨hM, hD⟩ := H.mem
  have hel : K2.2.2 5 ≤ 2000 := M.2.2.2.2.2.2.2.2.2.2.2.2.2.2.2.2.1
  obtain ⟨_, pr, de, fu, j1, j2, j3, j4, j5, j6, j7, j8, j9, j10, ⟨j11, j12, j13, j14, j15, j16, j17⟩, o1, o2⟩ := id H
  -- what the class keeps
  have hkk : kvO E (inA A s (K2.2.2 5)) (aK A) = kvO E A (aK A) := kvO.al (ha'.1 0 (by omega)) (ha'.1 8 (by omega)) _ (inA_o hns)
  obtain ⟨k, q, vm, k1, k2⟩ := SEA.kpt hBk S (aK A) (List.suffix_cons s (aK A))
  rw [ha'.eF, ha'.eP, hp, hkk] at k2
  have hb1 := (hD.2.2 _ _ _ _ _ _ k2).2.1 (by omega)
  rw [inK_no] at hb1
  have tk := k_level C ha hw hb1.1 ((hM _ _ _ _ _ _ k2).2.1 k1)
  have hrm : gl wM 83 (aB A + nd (vM E) 41 bk) = Int64.ofNat (kvO E A (aK A)) := by
    have := (hM _ _ _ _ _ _ (show (inK K2 A s sg (nd (vM E) 41 bk)).2.1 _ _ _ _ _ _ from Or.inl hs3)).2.2 (Or.inr rfl)
    unfold RMq at this
    rw [if_pos (by omega)] at this
    exact this
  have st := rm_exit M hb ho hbk.1 hm87 hbk.2.1 hbk.2.2.2 hrm
  have OA : OFF (fun k j => k = 48 ∧ (j = 11 ∨ j = 16)) (si (si wA 48 11 (Int32.ofNat (a + 1))) 48 16 (Int32.ofNat (kvO E A (aK A)))) wA := OFF.tr (OFF.si (by omega)) (OFF.si (by omega))
  have OM : OFF (fun k j => k = 0 ∧ (j = 128 ∨ j = 133)) (si (si wM 0 128 (Int32.ofNat (b + 1))) 0 133 (Int32.ofNat (kvO E A (aK A)))) wM := OFF.tr (OFF.si (by omega)) (OFF.si (by omega))
  have q11 : gi (si (si wA 48 11 (Int32.ofNat (a + 1))) 48 16 (Int32.ofNat (kvO E A (aK A)))) 48 11 = Int32.ofNat (a + 1) := by rw [gi_si1 (by omega), gi_si0]
  have q16 : gi (si (si wA 48 11 (Int32.ofNat (a + 1))) 48 16 (Int32.ofNat (kvO E A (aK A)))) 48 16 = Int32.ofNat (kvO E A (aK A)) := gi_si0 _ _ _ _
  have q128 : gi (si (si wM 0 128 (Int32.ofNat (b + 1))) 0 133 (Int32.ofNat (kvO E A (aK A)))) 0 128 = Int32.ofNat (b + 1) := by rw [gi_si1 (by omega), gi_si0]
  have q133 : gi (si (si wM 0 128 (Int32.ofNat (b + 1))) 0 133 (Int32.ofNat (kvO E A (aK A)))) 0 133 = Int32.ofNat (kvO E A (aK A)) := gi_si0 _ _ _ _
  generalize si (si wA 48 11 (Int32.ofNat (a + 1))) 48 16 (Int32.ofNat (kvO E A (aK A))) = uA at tk OA q11 q16
  generalize si (si wM 0 128 (Int32.ofNat (b + 1))) 0 133 (Int32.ofNat (kvO E A (aK A))) = uM at st OM q128 q133
  have e4 : ∀ j, j ≠ 11 → j ≠ 16 → gi uA 48 j = gi wA 48 j := fun j q r => (OA 48 j (by omega)).1
  have e0 : ∀ j, j ≠ 128 → j ≠ 133 → gi uM 0 j = gi wM 0 j := fun j q r => (OM 0 j (by omega)).1
  have C1 : CK (cA E) (eNo E 5 0) (a + 1) (aF A) (K2.2.2 1) (A.1 5) (K2.2.2 3) (kvO E A (aK A)) uA := C.nw (OA.mono fun k j p => by omega) q11 ((e4 12 (by omega) (by omega)).trans C.2.2.2.1) ((e4 13 (by omega) (by omega)).trans C.2.2.2.2.1) ((e4 14 (by omega) (by omega)).trans C.2.2.2.2.2.1) ((e4 15 (by omega) (by omega)).trans C.2.2.2.2.2.2.1) q16 ⟨C.2.2.2.2.2.2.2.2.1, C.2.2.2.2.2.2.2.2.2.1, C.2.2.2.2.2.2.2.2.2.2.1, hd.1, by omega⟩
  have M1 : MK (dM E) (b + 1) (K2.2.2 0) (A.1 6) (K2.2.2 4) K2.1.length (K2.2.2 2) (kvO E A (aK A)) (K2.2.2 3) uM := by
    obtain ⟨n1, n2, n3, n4, n5, n6, n7, n8, n9, n10, n11, n12, n13, n14, n15, n16, n17, n18⟩ := id M
    exact M.nw (OM.mono fun k j p => by omega) q128 ((e0 129 (by omega) (by omega)).trans n4) ((e0 130 (by omega) (by omega)).trans n5) ((e0 127 (by omega) (by omega)).trans n6) ((e0 131 (by omega) (by omega)).trans n7) ((e0 132 (by omega) (by omega)).trans n8) q133 ((e0 134 (by omega) (by omega)).trans n10) ⟨by omega, n12, n13, n14, n15, n16, by omega, n18⟩
  have hA : K.1[K.2.2 0]? = some A := by rw [← e1, ← e2 0 (by omega)]; exact hA2
  have hmm : MEM K.2.1 uA uM := (hM.sub (fun k x q ty va vm gg => Or.inl (e3 _ _ _ _ _ _ gg))).agr (fun _ _ _ _ _ _ _ _ => (OA 50 _ (by omega)).2) (fun _ _ q _ _ _ _ _ => by
    unfold RMq
    rw [(OM 83 q (by omega)).2, (OM 84 _ (by omega)).2])
  have J : JS E K (K.2.2 5) (a + 1) (b + 1) (A.1 5) (A.1 6) sc x1 (i + 1) uA uM := by
    refine JS.ch (h0 := A.1 5) (sp0 := A.1 6) H hK (fun j B hB => inK_cb hA2 hl2 j B (by rw [e1]; exact hB)) hA hon ?_ (j4.off OA (fun k j p => by omega)) ?_ (j6.off OM (fun k j p => by omega)) (fun pr0 de0 fu0 T => T.uq j4) hmm (OA.mono fun k j p => by omega) (OM.mono fun k j p => by omega) (fun q B hq => ?_) ⟨Nat.le_refl _, Nat.le_refl _, hd.2.2.1⟩ ⟨by omega, hx.2⟩
    · rw [← e2 1 (by omega), ← e2 3 (by omega), hkv.1]; exact C1
    · rw [← e2 0 (by omega), ← e2 4 (by omega), ← e2 2 (by omega), ← e2 3 (by omega), hkv.1, ← e1]; exact M1
    · exact H.low q B hq
  exact J.go hE (TKS.one hd.2.2.2.2 tk) (SPS.one (M.runs ho hb (by decide)) st) (by omega) (g uA uM J)
end MA0
