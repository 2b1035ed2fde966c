/-! BOTH MACHINES: a BLOCK -/
section MB1
variable {E : SENV} {Lim p a a0 a1 a2 b b1 b2 b3 i0 i1 s bk sg W m1 m1' s0 m2 : Nat} {stk : List Nat}
theorem SIT.blk (hE : EOKS E) (hBk : ∀ s, s < eNo E 5 6 → gi (vM E) 17 s = -1 ∨ ∃ bk, gi (vM E) 17 s = Int32.ofNat bk ∧ bk < 9000) (hB : BLS E s p bk sg W m1 m1') (hs0 : m1' ≤ s0 ∧ s0 ≤ m2) (hu : UPM (eNo E 5 6) (vM E) (s :: stk)) (hlen : (s :: stk).length < 9000) (hns : s ∉ stk) (hi0 : ∀ y ∈ eSL E s, gi (vM E) 19 y = 2 → i0 ≤ y ∧ y < i1) (hw : W ≤ 1 ∧ a0 = a ∨ 1 < W ∧ gl (cA E) 41 a = wdC 29 0 ((Int32.ofNat sg <<< (11 &&& 31)) ||| Int32.ofNat W) ∧ a0 = a + 1) {Y Z : Int32} (ho : opW (dM E) b 23 (Int32.ofNat bk) Y Z)
    (hd : DCT E Lim stk p s bk i0 i1 sg W m1' s0 m2 a0 a1 (b + 1) b1) (w1 : gl (cA E) 41 a1 = wdC 31 0 (Int32.ofNat sg)) {Y1 Z1 : Int32} (o1 : opW (dM E) b1 26 (Int32.ofNat bk) Y1 Z1) (hj : ∀ ev sp cp na mt el us w, MK (dM E) (b1 + 1) ev sp cp na mt el us w → ∃ n y, n ≤ a1 - a0 + 1 ∧ SPS n w y ∧ OFF (fun k j => k = 0 ∧ j = 128) y w ∧ MK (dM E) b2 ev sp cp na mt el us y)
    (hin : SIT E Lim (s :: stk) p (sg + W) m1' s0 m2 (a1 + 1) a2 b2 b3) (hLB : LBE E Lim s stk p (sg + W) m1' s0 m2 (a1 + 1) a2 b3) (w2 : gl (cA E) 41 a2 = wdC 32 0 (Int32.ofNat (kpO E p stk))) {Y2 Z2 : Int32} (o2 : opW (dM E) b3 27 (Int32.ofNat bk) Y2 Z2) (ha : a0 ≤ a1 ∧ a1 + 1 ≤ a2 ∧ a2 < eNo E 5 0) (hb : b < 60000 ∧ b1 < 60000 ∧ b2 ≤ 60000 ∧ b3 < 60000) : SIT E Lim stk p sg m1 s0 m2 a (a2 + 1) b (b3 + 1) := by
  intro K A sc x i wA wM hA hon hl hr hp hT hF H hH hL hroom hxa hxk hx1 hx2 g
  obtain ⟨⟨s1, s2, s3, s4, s5⟩, ⟨v1, v2, v3, v4, v5, v6⟩, ⟨r1, r2⟩, _⟩ := id hB
  have haa : a ≤ a0 ∧ a0 ≤ a + 1 := by omega
  have hlow := H.low
  have hkst := H.kst
  have hM0 := (H.cka hA).2
  have hmt : K.2.2 2 ≤ 199000 := hM0.2.2.2.2.2.2.2.2.2.2.2.2.2.2.2.1
  have hel : K.2.2 5 ≤ 2000 := hM0.2.2.2.2.2.2.2.2.2.2.2.2.2.2.2.2.1
  obtain ⟨t1, t2, t3, t4, t5⟩ := id hT
  rw [hp] at t1 t2
  rw [← hr] at hu hlen hns w2
  refine JS.ent (x1 := x + 1) hE H hA hon hp hT hF hB hs0 hw ho (by omega) hb.1 (fun y y1 y2 => (hi0 y y1 y2).1) ⟨Int.le_refl _, by omega⟩ (fun uA uM G' hg J D => ?_)
  refine hd (grK K G' (K.2.2 5)) A sc (x + 1) _ uA uM hA hon hr hp ⟨t1, t2, t3⟩ D J (hH.gr hg) hL hroom (fun j B hB => by have := hxa j B hB; omega) (by omega) (fun K2 vA' vM' sc2 u2 k1 k2 k3 k4 D2 J2 H2 l2 => ?_)
  have k1 : K2.1 = K.1 := k1
  have k2 : ∀ k, k ≠ 5 → K2.2.2 k = K.2.2 k := fun k hk => (k2 k hk).trans (if_neg hk)
  have k3 : ∀ k x q ty va vm, K.2.1 k x q ty va vm → K2.2.1 k x q ty va vm := fun k x q ty va vm gg => k3 _ _ _ _ _ _ (hg _ _ _ _ _ _ gg)
  have k4 : K.2.2 5 ≤ K2.2.2 5 := k4
  have hA2 : K2.1[K2.2.2 0]? = some A := by rw [k1, k2 0 (by omega)]; exact hA
  have hl2 : K2.1.length = K2.2.2 0 + 1 := by rw [k1, k2 0 (by omega)]; exact hl
  have hT2 : K2.2.2 1 = aF A + eNo E 1 p ∧ K2.2.2 2 = aB A + eNo E 3 p := ⟨by rw [k2 1 (by omega)]; exact t1, by rw [k2 2 (by omega)]; exact t2⟩
  have hkv2 : kvO E A (aK A) ≤ K2.2.2 5 := by omega
  have hK3 : KST E (inK K2 A s sg (nd (vM E) 41 bk)) := KST.blk J2.kst hA2 hon hl2 hp hB ⟨hT2.1, hT2.2, by rw [k2 2 (by omega)]; omega⟩ D2 (fun y y1 y2 => (hi0 y y1 y2).2) hu hlen hns hkv2
  refine JS.kpt (x1 := x + 1 + (a1 - a0) + 1) hE J2 hA2 hon hl2 hp hB hT2 D2.2.2.2.1 hK3 w1 o1 (by omega) hb.2.1 ⟨by omega, by omega⟩ (fun yA yM J3 => ?_)
  have hat := inK_at (A := A) (s := s) (sg := sg) (q0 := nd (vM E) 41 bk) hl2
  have ha' : ALK A (inA A s (K2.2.2 5)) := inA_alk
  have e5 : (inA A s (K2.2.2 5)).1 5 = A.1 5 := ha'.1 5 (by omega)
  have e6 : (inA A s (K2.2.2 5)).1 6 = A.1 6 := ha'.1 6 (by omega)
  have e4 : (inA A s (K2.2.2 5)).1 4 = A.1 4 := ha'.1 4 (by omega)
  have e7 : (inA A s (K2.2.2 5)).1 7 = A.1 7 := ha'.1 7 (by omega)
  obtain ⟨C3, M3⟩ := J3.cka hat
  obtain ⟨n, zM, n1, n2, n3, n4⟩ := hj _ _ _ _ _ _ _ _ M3
  have hd3 := J3.dep
  have J4 : JS E (inK K2 A s sg (nd (vM E) 41 bk)) (K2.2.2 5) (a1 + 1) b2 (A.1 5) (A.1 6) sc2 (x + 1 + (a1 - a0) + 1 + n) (u2 + 1 + n) yA zM := J3.mv (h0 := A.1 5) (sp0 := A.1 6) J3.low OFF.rf (n3.mono fun k j p => by unfold PSO; omega) C3.2.2.1 C3.2.2.2.2.2.1 n4.2.2.1 n4.2.2.2.2.1 ⟨hb.2.2.1, by omega, Nat.le_refl _, Nat.le_refl _, by omega⟩ ⟨by omega, by omega⟩
  refine JS.gov hE (show TKS 0 yA yA from rfl) (Nat.zero_le n) n2 (by omega) J4 ?_
  have hT3 : LSN E (inK K2 A s sg (nd (vM E) 41 bk)) (inA A s (K2.2.2 5)) := by
    unfold LSN
    rw [inK_no, inK_no, inK_no, inK_no, inK_no, ha'.eF, ha'.eB, ha'.eP, hp, e4, e7]
    refine ⟨hT2.1, hT2.2, by rw [k2 3 (by omega)]; exact t3, by rw [k2 4 (by omega)]; exact t4, ?_⟩
    show _ = (if own E s (aP (inA A s (K2.2.2 5))) then (if gi (vM E) 17 s = -1 then _ else (inA A s (K2.2.2 5)).1 (100 + s)) else _)
    rw [ha'.eP, hp, if_pos s1, if_neg (by
      rw [s2]
      intro e
      exact absurd (show Int32.ofNat bk < 0 by rw [e]; decide) (nn_iN (by omega))), inA_s]
  have hF3 : FRE (inK K2 A s sg (nd (vM E) 41 bk)) (inA A s (K2.2.2 5)) (sg + W) m1' s0 m2 := by
    intro k x' q t va vm gg
    rw [ha'.eF, ha'.eB]
    rcases gg with gg | ⟨g1, g2, g3, g4, g5, g6⟩
    · exact D2.2.2.1 _ _ _ _ _ _ gg
    · exact ⟨fun _ => by omega, fun _ _ => by omega⟩
  have hxa3 : ∀ (j : Nat) (B : ACT), (inK K2 A s sg (nd (vM E) 41 bk)).1[j]? = some B → x + 1 + (a1 - a0) + 1 + n + 4 * ((a2 : Int) - (a1 + 1 : Nat)) ≤ aX B := fun j B hB => by
    obtain ⟨B0, q1, q2⟩ := inK_cf hA2 hl2 j B hB
    rw [k1] at q1
    have := hxa j B0 q1
    have : aX B = aX B0 := by unfold aX; rw [q2.2]
    omega
  have eX : aX (inA A s (K2.2.2 5)) = aX A := rfl
  -- the end
  have hend : ∀ uA uM sc' i', JS E (inK K2 A s sg (nd (vM E) 41 bk)) (K2.2.2 5) a2 b3 (A.1 5) (A.1 6) sc' (x + 1 + (a1 - a0) + 1 + n + 4 * ((a2 : Int) - (a1 + 1 : Nat))) i' uA uM → eNo E 5 5 ≤ Lim + sc' → GD E i' uA uM := fun qA qM sc' i' J5 l5 => by
    refine JS.bex (K := K) (x1 := x + 4 * ((a2 + 1 : Nat) - (a : Int))) hE hBk J5 hA2 hon hl2 hp hns hkst k1 k2 k3 D2.2.2.2.2 ⟨t5, hel⟩ ⟨s3, s5, v6, by omega⟩ w2 o2 ha.2.2 hb.2.2.2 ⟨by omega, hxk⟩ (fun rA rM J6 => ?_)
    exact g rA rM sc' _ J6 l5
  have hLB' : LBE E Lim s (aK A) p (sg + W) m1' s0 m2 (a1 + 1) a2 b3 := by rw [hr]; exact hLB
  have J4' : JS E (inK K2 A s sg (nd (vM E) 41 bk)) (K2.2.2 5) (a1 + 1) b2 ((inA A s (K2.2.2 5)).1 5) ((inA A s (K2.2.2 5)).1 6) sc2 (x + 1 + (a1 - a0) + 1 + n) (u2 + 1 + n) yA zM := by rw [e5, e6]; exact J4
  have hroom3 : (inA A s (K2.2.2 5)).1 5 + 502 ≤ 502 * ((inA A s (K2.2.2 5)).1 4 + 1) ∧ (inA A s (K2.2.2 5)).1 7 + 1 ≤ 4 * (inA A s (K2.2.2 5)).1 4 + 4 := by rw [e5, e4, e7]; exact hroom
  have hHo := HND.own (K := K2) (A := A) (A' := inA A s (K2.2.2 5)) (G' := orG K2.2.1 (keN A sg (nd (vM E) 41 bk) (K2.2.2 5))) (el1 := K2.2.2 5) (a1 := a1 + 1) (a9 := a2) (b9 := b3) (x9 := x + 1 + (a1 - a0) + 1 + n) hE hBk H2 hA2 hon hl2 (fun _ _ _ _ _ _ g => Or.inl g) inA_sma rfl (inA_o hns) J4' hT3 hF3 hroom3 (by rw [eX]; exact hx2) (by rw [eX]; omega) hxa3 (by omega) (ha'.eP.trans hp) hLB' (fun uA uM sc' i' J s => by
    rw [e5, e6] at J
    exact hend uA uM sc' i' J s) Lim (Nat.le_refl _)
  refine hin (inK K2 A s sg (nd (vM E) 41 bk)) (inA A s (K2.2.2 5)) sc2 (x + 1 + (a1 - a0) + 1 + n) _ yA zM hat (inA_sma.on.mpr hon) ?_ ?_ (ha'.eP.trans hp) hT3 hF3 ?_ hHo l2 hroom3 hxa3 (by omega) (by rw [eX]; omega) (by rw [eX]; exact hx2) (fun uA uM sc' i' J s => ?_)
  · rw [inK_len hl2, inK_no]; exact hl2
  · show s :: aK A = _
    rw [hr]
  · rw [inK_no]; exact J4'
  · rw [inK_no, e5, e6] at J
    exact hend uA uM sc' i' J s
end MB1
