/-! WHAT'S KNOWN WHEN THE FIRST PASS IS THROUGH -/
section SF2
variable {kd wr nm TK ph : Nat → Nat} {vv : Nat → Int64} {m z n q : Nat} {C : CV} {SL : Nat → List Nat} {gA gM uA uM : Wd}
/-- words of a frame that are at hand -/
def SZf (uM : Wd) : Nat := if gi uM 0 10 = 0 then 1690 else 100000
theorem pd_tbm (hT : TOKS kd wr nm vv m z gA gM) (hJ : JL kd wr nm vv m z gA gM 0 (C 1) [] [(0, 6, q)] C TK SL m 0 uA uM) (h0 : C 0 ≤ 2 * m + 1) : TBM kd wr nm vv m C TK SL uA uM := by
  obtain ⟨j1, j2, j3, j4, j5, ⟨k1, k2, k3, k4, k5, k6, k7, k8⟩, j7, j8, j9, j10, j11, j12, j13, j14, j15⟩ := hJ
  obtain ⟨t1, t2, t3, t4, t5, t6, t7, t8, t9⟩ := hT
  have hw := t1 m
  obtain ⟨c1, c2, c3, c4, c5, c6, c7, c8, c9⟩ := j7
  exact ⟨j8, j2, t6, ⟨by omega, by omega, by omega, by omega⟩, fun s hs => ⟨by have := (c6 s).2.1; omega, fun i hi => ((c6 s).2.2 i hi).1⟩, fun i hi hk => by rw [(j4 4 i (by unfold PMM; omega)).2]; exact t9 i hi hk, j11⟩
/-- of the walk over the PROGRAM -/
theorem pd_walk (hB : BLKX kd uA uM (PSTX kd uA uM 41) 0 0 m n [] [(0, 6, 1)] 1 q Cb0 C) : WQ uM Cb0 C ∧ LVB uM Cb0 C ∧ LEC Cb0 C ∧ X9 uM 0 m Cb0 C := by
  refine ⟨blk_wq (pst_wq 41) hB (fun y hy => ?_), blk_lv (pst_lv 41) (by simp) hB, ?_, blk_9 (pst_9 41) (pst_tp 41) hB⟩
  · rw [List.mem_singleton.mp hy, Cb0_4]
    decide
  · obtain ⟨p, sg, q0, r, hp, b2, b3, b4, b5, b6, b7, b8, b9, b10, jd, s1, sg1, q1, al, C1, xs, e1, c1, c2, c3, c4, hD, hS, _, he, _, hG⟩ := hB
    have h1 : LEC Cb0 (upD (upD (upD Cb0 0 1) 2 1) 3 1) := LEC.upD.tr3 (LEC.upD.tr3 LEC.upD)
    exact (h1.tr3 (dcs_tp (pst_tp 41) _ _ _ _ _ _ _ _ _ _ hD).2.1).tr3 (sts_tp (pst_tp 41) _ _ _ _ _ _ _ hS).2.1
theorem pd_mc (hT : TOKS kd wr nm vv m z gA gM) (hJ : JL kd wr nm vv m z gA gM 0 (C 1) [] [(0, 6, q)] C TK SL m 0 uA uM) (h0 : C 0 ≤ 2 * m + 1) (hB : BLKX kd uA uM (PSTX kd uA uM 41) 0 0 m n [] [(0, 6, 1)] 1 q Cb0 C) (hkm : kd m = 0) (hPH : PHW kd ph m) :
    CTJ kd wr nm TK vv m z C SL uA uM [] 0 0 (fun _ => 0) ∧ MC kd wr TK ph m C SL uM (C 2) (C 1) (SZf uM) (FLM uM) ∧ OUT SL Cb0 C ∧ gi uM 30 0 = Int32.ofNat 0 ∧ C 5 ≤ 4096 ∧ CSC (fun i => nm (TK i)) SL [] (C 2) (C 1) 0 uA := by
  have hTB := pd_tbm hT hJ h0
  obtain ⟨w1, w2, w3, w4⟩ := pd_walk hB
  obtain ⟨j1, j2, j3, j4, j5, ⟨k1, k2, k3, k4, k5, k6, k7, k8⟩, j7, j8, j9, ⟨_, _, j53, _⟩, j11, j12, j13, j14, j15⟩ := hJ
  obtain ⟨t1, t2, t3, t4, t5, t6, t7, t8, t9⟩ := hT
  have hw := t1 m
  have hcu : CUR uM 0 := ⟨by omega, fun j a _ c => absurd a (by omega)⟩
  have hUP : UPM (C 2) uM [] := trivial
  have e4 : Cb0 4 = 1 := Cb0_4
  have e1 : Cb0 1 = 0 := Cb0_n (by decide)
  have e2 : Cb0 2 = 0 := Cb0_n (by decide)
  obtain ⟨n1, n2, n3, n4, n5, _⟩ := j13
  have h30 : gi uM 30 0 = Int32.ofNat 0 := n4
  have hz : z = m + 1 := by
    refine Classical.byContradiction fun c => ?_
    exact t2 m (by omega) hkm
  have hct := j1.1
  obtain ⟨o1, o2, o3, o4⟩ := j15
  refine ⟨⟨hTB, t7, hcu, hUP, by simp, ⟨j1.2.2.1, fun tk => luN_le hTB hUP, ⟨by omega, by omega⟩, j11⟩, wq_pfm w1 e1 (by omega) (by omega), pnr_0 hTB (fun j hj => ?_), t1, t4, fun i hi => ?_, by omega, fun i hi => hct.2.2.2.1 i (by omega)⟩, ⟨⟨rfl, Nat.le_refl _, by omega, by omega, by unfold SZf; split <;> omega, j53⟩, hPH, ⟨fun j hj => ?_, fun h10 j hj => ?_⟩, ⟨fun c7 => ?_, fun h10 => ?_⟩, fun i hi hf => ?_, fun i hi hs => ?_, fun j a b => w1.2.1 j (by omega) b⟩, fun t i a b hi => ?_, h30, by omega, j7⟩
  · by_cases c : j = 0
    · subst c
      exact ⟨0, h30, by omega⟩
    · exact w2 j (by omega) hj
  · have := t7 i hi
    have := wlN_1 (kd i)
    omega
  · have hc := cntP_le (w := uM) (p := j) (C 1)
    unfold SZf
    by_cases c : gi uM 0 10 = 0
    · rw [if_pos c]
      have : ¬ 200 < cntP uM j (C 1) := fun h => ((o1 j).1 hj).2 h |>.1 c
      omega
    · rw [if_neg c]; omega
  · refine Classical.byContradiction fun h => ?_
    exact ((o1 j).1 hj).2 (by omega) |>.1 h10
  · obtain ⟨f1, f2⟩ := j5
    rw [if_neg c7] at f2
    obtain ⟨g1, g2⟩ := FN_le (p := FLA uA) (a := 5) (x := Int32.ofNat (wr (C 7 - 1))) (by decide)
    have e1 := f2.1
    have e2 := f2.2 g1
    refine ⟨by rw [← e1]; exact g1, ?_⟩
    rw [← e1, ← e2]
    exact g2
  · refine Classical.byContradiction fun c7 => ?_
    obtain ⟨f1, f2⟩ := j5
    rw [if_neg c7] at f2
    obtain ⟨g1, g2⟩ := FN_le (p := FLA uA) (a := 5) (x := Int32.ofNat (wr (C 7 - 1))) (by decide)
    have e1 := f2.1
    exact g1 (e1.trans h10)
  · exact o2 i hi hf.1 hf.2
  · refine o4 i hi (fun s hs' => ?_)
    by_cases c : s < C 2
    · exact hs s c hs'
    · rw [(j7.2.2.2.2.1 s (by omega)).1] at hs'
      exact absurd hs' (by simp)
  · have := (j7.2.2.2.2.2.1 t).2.2 i hi
    omega
end SF2
