/-! BOTH MACHINES: the call is done -/
section KI8
variable {E : SENV} {K : CXT} {Lim p nx a a1 b b1 b2 h sp sc i el S k nf ff ac y th a0 q c c9 s tp mt lk dp cp Z : Nat} {x x1 : Int} {wA wM uA uM zA zM : Wd} {A B N L : ACT} {F : Nat → Int64} {G : GHO} {as : List ACT} {stk : List Nat} {ty : Int32} {ax : Int}
theorem FVL.w {v1 v2 m1 m2 v2' m2' : Int64} (hw : wdF E q = 1) (hF : FVL E as G q v1 v2 m1 m2) : FVL E as G q v1 v2' m1 m2' := by
  obtain ⟨g1, g2, g3, g4, g5, g6⟩ := hF
  have e : gi (vM E) 24 q = 2 ∨ (gi (vM E) 24 q = 1 ∧ gi (vM E) 28 q ≠ 0) := by
    by_cases z : gi (vM E) 24 q = 2 ∨ (gi (vM E) 24 q = 1 ∧ gi (vM E) 28 q ≠ 0)
    · exact z
    · unfold wdF at hw
      rw [if_neg z] at hw
      omega
  refine ⟨g1, fun h1 h2 => ?_, g3, fun h1 => ?_, fun h1 => ?_, fun h1 => ?_⟩
  · rcases e with z | z
    · rw [z] at h1; exact absurd h1 (by decide)
    · exact absurd h2 z.2
  · rcases e with z | z
    · rw [z] at h1; exact absurd h1 (by decide)
    · rw [z.1] at h1; exact absurd h1 (by decide)
  · rcases e with z | z
    · rw [z] at h1; exact absurd h1 (by decide)
    · rw [z.1] at h1; exact absurd h1 (by decide)
  · rcases e with z | z
    · rw [z] at h1; exact absurd h1 (by decide)
    · rw [z.1] at h1; exact absurd h1 (by decide)
def onK (E : SENV) (K : CXT) (p nf ff lk fL h sp Z S : Nat) (uA uM : Wd) (ax : Int) : CXT := (K.1 ++ [onA E K p lk h sp uA uM ax], onG K.2.1 (FRC E p nf ff (K.2.2 1) (K.2.2 2) fL (K.2.2 3 + 1) (K.2.2 5) h Z uA uM), fun k => if k = 0 then K.1.length else if k = 1 then K.2.2 1 + Z else if k = 2 then K.2.2 2 + S else if k = 3 then K.2.2 3 + 1 else if k = 4 then K.2.2 4 + 1 else K.2.2 k)
theorem JS.cll (hE : EOKS E) (hS : SYS E) (hP : PNO E K (eNo E 3 p) (pndA K p lk h sp zA zM)) (H : PEND E K (eNo E 3 p) (pndA K p lk h sp zA zM) a b (h + wsum E ff nf + 2) sp sc x i wA wM) (hA : K.1[K.2.2 0]? = some A) (hon : aOn A) (hpp : PRF E p) (hnf : gi (vM E) 31 p = Int32.ofNat nf) (hff : gi (vM E) 32 p = Int32.ofNat ff) (hn : nf < 100000 ∧ ff < 100000) (hL : K.1[lk]? = some L) (hLo : aOn L) (hCab : CAB E L p) (hpL : aP L < 1200) (hsp : sp ≤ h)
    (hw : gl (cA E) 41 a = wdC 42 0 0) (ha : a < eNo E 5 0) (v1 : gl wA 51 (h + wsum E ff nf) = Int64.ofNat (eNo E 0 p)) (v2 : gl wA 51 (h + wsum E ff nf + 1) = Int64.ofNat (aF L)) (hF : ∀ q, q < nf → FWD E K ff h q wA wM) (hz : gl wM 83 (K.2.2 2) = 0) (hax : ax ≤ KK) (hx : x + 1 ≤ x1 ∧ x1 ≤ KK) (low : LOWK K h sp)
    (g : ∀ uA, JS E (onK E K p nf ff lk (aF L) h sp (eNo E 1 p) (eNo E 3 p) uA wM ax) (K.2.2 5) (eNo E 0 p + 2) b h sp sc x1 (i + 1) uA wM → gi uA 53 (K.2.2 3 + 1) = Int32.ofNat (a + 1) → gi uA 54 (K.2.2 3 + 1) = Int32.ofNat (aF A) → OFF (fun k j => (k = 48 ∧ 11 ≤ j ∧ j ≤ 14) ∨ ((k = 53 ∨ k = 54) ∧ j = K.2.2 3 + 1) ∨ (k = 50 ∧ K.2.2 1 ≤ j)) uA wA → GD E (i + 1) uA wM) : GD E i wA wM := by
  have hpp' := hpp
  obtain ⟨nf', ff', c, ⟨p1, p2, p3, p4, p5, p6, p7⟩, ⟨q1, q2, q3, q4, q5⟩, ⟨r1, r2, r3, r4, r5, r6⟩, hfm, ⟨s1, s2, s3, s4, s5, s6, s7, s8⟩, _⟩ := hpp'
  have en : nf' = nf := (eq_iN (by omega) (by omega)).mp (p3.symm.trans hnf)
  have hC1 : eNo E 5 2 ≤ 4100 := by
    obtain ⟨kd, m, C, c1, c2, c3, c4, _⟩ := hS
    omega
  have ef : ff' = ff := (eq_iN (by omega) (by omega)).mp (p4.symm.trans hff)
  subst en
  subst ef
  obtain ⟨w1, w2, w3, J⟩ := id H
  have M := H.mk
  obtain ⟨C, _⟩ := J.cka (A := A) (at_app hA)
  have hd := J.dep
  have hd60 : K.2.2 3 + 1 ≤ 60 := hd.1
  have hK := hP.2.2.2.2.2.2.1
  obtain ⟨k1, k2, k3, k4, k5, k6⟩ := hK
  have hcn := cnO_le K.1
  have htp : K.2.2 1 + eNo E 1 p ≤ 109186 := by omega
  have hmt := hP.2.2.2.2.2.2.2
  have hLF : aF L < K.2.2 1 := J.frm (at_app hL) hLo
  have hC : CK (cA E) (eNo E 5 0) a (aF A) (K.2.2 1) (h + wsum E ff' nf' + 2) (K.2.2 3 + 1) (K.2.2 5) wA := C
  obtain ⟨u, u1, u2, u3, u4, u5, ⟨f0, f1, f2, f3, f4, f5⟩, u6⟩ := k_call (h := h) (nf := wsum E ff' nf') (hd := eNo E 0 p) (lk := aF L) (Z := eNo E 1 p) hC ha hw v1 v2 q3 q1 q2 htp (by omega) (by omega)
  have hA0 : K.2.2 1 ≤ 109186 := by omega
  have h60 : 6096 ≤ K.2.2 1 := by
    -- the frame at hand lies below
    obtain ⟨⟨L', hL', hLo', gF, _⟩, _⟩ := (J.act (at_app hA)).2.2.2.2.2.2.2 hon
    have := (J.mem.2.2.2 _ _ _ _ _ _ gF).2.1 (by omega)
    have h1 : aF A < K.2.2 1 := this.1
    have h2 : ¬ aF A < 6096 := fun c => absurd (this.2 c).1 (by decide)
    omega
  -- cells
  have hfv : ∀ q, q < nf' → FVL E K.1 K.2.1 (ff' + q) (gl u 50 (K.2.2 1 + 6 + wsum E ff' q)) (gl u 50 (K.2.2 1 + 6 + wsum E ff' q + 1)) (gl wM 83 (K.2.2 2 + (1 + 2 * q))) (gl wM 83 (K.2.2 2 + (1 + 2 * q) + 1)) := fun q hq => by
    obtain ⟨x1', x2, n1, n2, g1, g2, g3, g4, g5⟩ := hF q hq
    have l1 := wsum_lt (E := E) (ff := ff') hq
    have l2 := wdF_1 (E := E) (q := ff' + q)
    have e1 : gl u 50 (K.2.2 1 + 6 + wsum E ff' q) = x1' := (u6 _ (by omega)).trans g2
    rw [e1, g4]
    by_cases hw1 : wdF E (ff' + q) = 1
    · exact g1.w hw1
    · have hw2 : wdF E (ff' + q) = 2 := by omega
      have h2 : gi (vM E) 24 (ff' + q) ≠ 2 := fun c => hw1 (by
        unfold wdF
        rw [if_pos (Or.inl c)])
      have e2 : gl u 50 (K.2.2 1 + 6 + wsum E ff' q + 1) = x2 := by
        rw [show K.2.2 1 + 6 + wsum E ff' q + 1 = K.2.2 1 + 6 + (wsum E ff' q + 1) by omega, u6 _ (by omega), show h + (wsum E ff' q + 1) = h + wsum E ff' q + 1 by omega]
        exact g3 hw2
      rw [e2, g5 h2]
      exact g1
  have h20 : ∀ i, i < nf' → gi (vM E) 24 (ff' + i) = 1 → gi (vM E) 20 (ff' + i) = 1 ∨ gi (vM E) 20 (ff' + i) = 2 := fun i hi h1 => by
    have hy : ff' + i < eNo E 5 2 := by omega
    have := hS.tn hy (Or.inr (Or.inl ⟨(hfm i hi).1, h1⟩))
    rcases hS.t3 hy with z | z | z
    · exact absurd z this
    · exact Or.inl z
    · exact Or.inr z
  have h29 : gi (vM E) 20 (nd (vM E) 29 p) = 0 ∨ gi (vM E) 20 (nd (vM E) 29 p) = 1 ∨ gi (vM E) 20 (nd (vM E) 29 p) = 2 := hS.t3 p7
  have hKn : KST E (onK E K p nf' ff' lk (aF L) h sp (eNo E 1 p) (eNo E 3 p) u wM ax) := by
    have hx : EXA K.1 (K.1 ++ [onA E K p lk h sp u wM ax]) := EXA.app
    have hlk : lk < K.1.length := by
      rcases List.getElem?_eq_some_iff.mp hL with ⟨z, _⟩
      exact z
    refine ⟨?_, fun j B hB => ?_, ?_, ?_, ?_, ?_⟩
    · exact DIS.on k1 q4 ⟨by show K.2.2 2 + 1 + 2 * nf' ≤ K.2.2 2 + eNo E 3 p; omega, by show K.2.2 2 + eNo E 3 p ≤ 1048576; omega⟩ h20 h29 h60
    · show B.1 4 ≤ K.2.2 3 + 1 ∧ B.1 7 ≤ K.2.2 4 + 1 ∧ aB B ≤ 199000 ∧ _
      rcases app_at (show (K.1 ++ [_])[j]? = some B from hB) with ⟨z, _⟩ | ⟨z1, z⟩
      · obtain ⟨z1, z2, z3, z4⟩ := k2 j B z
        exact ⟨by omega, by omega, z3, fun ho => (z4 ho).mono hx (fun _ _ _ _ _ _ g => Or.inl g)⟩
      · subst z
        subst z1
        refine ⟨Nat.le_refl _, Nat.le_refl _, by show K.2.2 2 ≤ 199000; omega, fun _ => ?_⟩
        exact SEA.new hS hpp hnf hff hn hL hLo hlk hCab hpL ((k2 lk L hL).2.2.2 hLo).2.2.2.2.2.2.2.2.2.2.2 ⟨rfl, rfl, rfl, rfl, rfl, rfl, rfl, rfl⟩ hfv
    · show K.2.2 4 + 1 ≤ 4 * (K.2.2 3 + 1) + 4
      omega
    · show (K.1 ++ [_]).length ≤ K.2.2 3 + 1 + 1
      rw [List.length_append, List.length_singleton]; omega
    · show K.2.2 2 + eNo E 3 p ≤ eNo E 5 1 + (K.1 ++ [_]).length * eNo E 5 7
      rw [List.length_append, List.length_singleton, Nat.add_mul, Nat.one_mul]; omega
    · show K.2.2 1 + eNo E 1 p ≤ 6096 + 1690 * cnO (K.1 ++ [_])
      rw [cnO_app]
      have e9 : ∀ u v w : Nat, u ≤ 6096 + 1690 * w → v ≤ 1690 → u + v ≤ 6096 + 1690 * (w + 1) := fun u v w h1 h2 => by omega
      exact e9 _ _ _ k6 q5
  have hMm : MK (dM E) b K.1.length sp (K.2.2 4 + 1) (K.1.length + 1) (K.2.2 2 + eNo E 3 p) (K.2.2 5) (K.2.2 3 + 1) wM := by
    have hl : (callK K (eNo E 3 p) (fun r => gl wM 83 r) (pndA K p lk h sp zA zM)).1.length = K.1.length + 1 := by
      show (K.1 ++ [_]).length = _
      rw [List.length_append]; rfl
    rw [hl] at M
    exact M
  obtain ⟨_, pr, de, fu, j1, j2, j3, j4, j5, j6, j7, j8, j9, j10, ⟨j11, j12, j13, j14, j15, j16, j17⟩, o1, o2⟩ := id J
  have OA : OFF (fun k j => (k = 48 ∧ 11 ≤ j ∧ j ≤ 14) ∨ ((k = 53 ∨ k = 54) ∧ j = K.2.2 3 + 1) ∨ (k = 50 ∧ K.2.2 1 ≤ j)) u wA := u3.mono fun k j p => by omega
  have OX : ∀ (Q : Nat → Nat → Prop), (∀ k j, k = 0 ∧ j = 129 → Q k j) → OFF Q wM (si wM 0 129 (Int32.ofNat ((callK K (eNo E 3 p) (fun r => gl wM 83 r) (pndA K p lk h sp zA zM)).2.2 0))) := fun Q hQ k j hk => ⟨(gi_si1 (fun c => hk (hQ k j c))).symm, (gl_si _ _ _ _ _ _).symm⟩
  have hl2 : (onK E K p nf' ff' lk (aF L) h sp (eNo E 1 p) (eNo E 3 p) u wM ax).1.length = K.1.length + 1 := by
    show (K.1 ++ [_]).length = _
    rw [List.length_append]; rfl
  have JJ : JS E (onK E K p nf' ff' lk (aF L) h sp (eNo E 1 p) (eNo E 3 p) u wM ax) (K.2.2 5) (eNo E 0 p + 2) b h sp sc x1 (i + 1) u wM := by
    refine JS.of (A := onA E K p lk h sp u wM ax) (pr := pr) (de := de) (fu := fu) hKn at_last rfl u2 (j4.off OA (fun k j p => by omega)) (by rw [hl2]; exact hMm) (j6.off (OX (fun k j => k = 0 ∧ j = 129) (fun k j c => c)) (fun k j p => by omega)) (fun r q1 q2 => ?_) ?_ (fun j B hB => ?_) hsp ⟨by omega, hx.2⟩ (OFF.tr (OA.mono fun k j p => by unfold PZA; omega) o1) (OFF.tr (OX PZR (fun k j c => by unfold PZR; omega)) o2)
    · rw [(OA 55 r (by omega)).2]
      exact (j7 r q1 q2).trans (gl_si _ _ _ _ _ _)
    · intro k x' q ty va vm gg
      rcases gg with gg | gg
      · have hx' := (k1.2.2 _ _ _ _ _ _ gg).2.1
        obtain ⟨h1, h2, h3⟩ := j8 _ _ _ _ _ _ (Or.inl gg)
        have eA : k ≤ 2 → gl u 50 x' = gl wA 50 x' := fun hk => (OA 50 x' (by have := (hx' hk).1; omega)).2
        refine ⟨fun hk => ?_, fun hk => ?_, fun hk => ?_⟩
        · rw [eA (by omega)]; exact h1 hk
        · rw [eA (by omega)]; exact h2 hk
        · exact h3 hk
      · have at_ := gg.at_
        have hqm : k ≠ 2 → RMq wM q = gl wM 83 q := fun hk => by
          unfold RMq
          rw [if_pos (by have := at_.2.2.1 hk; omega)]
        rcases gg with ⟨g1, g2, g3, g4, g5⟩ | ⟨g1, g2, g3, g4, g5, g6, g7⟩ | ⟨i', hi, gg⟩
        · subst g1
          refine ⟨fun hk => absurd hk (by decide), fun _ => ?_, fun hk => by omega⟩
          rcases g5 with ⟨e1, e2⟩ | ⟨e1, e2⟩ | ⟨e1, e2⟩ | ⟨e1, e2⟩ | ⟨e1, e2⟩ <;> rw [e1, e2]
          · exact f0
          · exact f1
          · exact f2
          · exact f3
          · exact f4
        · subst g1
          refine ⟨fun _ => ?_, fun hk => by omega, fun hk => by omega⟩
          rw [hqm (by decide), g2, g3, f5, hz]
          refine ⟨rfl, VT.z ?_⟩
          rw [g6] at g7 ⊢
          rcases h29 with z | z | z
          · exact absurd z g7
          · exact Or.inl z
          · exact Or.inr z
        · rcases gg with ⟨r1, r2, g1, g2, g3, g4, g5, g6⟩ | ⟨r1, g1, g2, g3, g4, g5⟩
          · subst g1
            refine ⟨fun _ => ?_, fun hk => by omega, fun hk => by omega⟩
            obtain ⟨t1, t2⟩ := (hfv i' hi).1 r1 r2
            rw [hqm (by decide), g2, g3, g4]
            exact ⟨t1, t2⟩
          · subst g1
            refine ⟨fun hk => absurd hk (by decide), fun _ => g3.symm, fun _ => ?_⟩
            rw [hqm (by decide)]; exact g4.symm
    · rcases app_at (show (K.1 ++ [_])[j]? = some B from hB) with ⟨z, hj⟩ | ⟨z1, z⟩
      · obtain ⟨m1, n1, n2, n3, n4, n5, n6⟩ := j10 j B (at_app z)
        obtain ⟨l1, l2⟩ := low j B z
        have hB4 := (k2 j B z).1
        refine ⟨m1.nw (fun k p1 p2 p3 => (gi_si1 (by omega)).symm) ⟨fun j' _ => (OA 51 j' (by omega)).2, fun k j' p q' r => (OA k j' (by omega)).1, fun _ _ => (gl_si _ _ _ _ _ _).symm, fun k j' p q' r => (gi_si1 (by omega)).symm, PSD.eq (OA 56 3 (by omega)).1 (OA 56 4 (by omega)).1⟩, l1, l2⟩
      · subst z
        subst z1
        obtain ⟨⟨m1, m2, m3, m4, m5, m6, m7, m8⟩, _⟩ := j10 K.1.length (pndA K p lk h sp zA zM) at_last
        have e : ∀ k j', k ≠ 0 → gi wM k j' = gi (si wM 0 129 (Int32.ofNat ((callK K (eNo E 3 p) (fun r => gl wM 83 r) (pndA K p lk h sp zA zM)).2.2 0))) k j' := fun k j' hk => (gi_si1 (by omega)).symm
        refine ⟨⟨(e 87 _ (by omega)).trans m1, (e 98 _ (by omega)).trans m2, (e 88 _ (by omega)).trans m3, (e 89 _ (by omega)).trans m4, (e 90 _ (by omega)).trans m5, (e 91 _ (by omega)).trans m6, ?_, ⟨fun _ _ => rfl, fun _ _ _ _ _ => rfl, fun _ _ => rfl, fun _ _ _ _ _ => rfl, PSD.eq rfl rfl⟩⟩, Nat.le_refl _, Nat.le_refl _⟩
        exact m7.imp id (fun z => ⟨z.1, z.2.1, z.2.2.1, (e 96 _ (by omega)).trans z.2.2.2⟩)
  have hg := g u JJ u4 u5 OA
  exact JJ.go hE (TKS.one hd.2.2.2.2 u1) (show SPS 0 wM wM from rfl) (by omega) hg
end KI8
