/-! PASS 2, THE REFERENCE: step and until; ELEMENTS in a row -/
section EX
variable {kd wr nm : Nat → Nat} {vv : Nat → Int64} {m lev cur : Nat} {fA fM : Wd} {c c1 c2 c' d C TK : Nat → Nat} {SL : Nat → List Nat} {w u v' : Wd} {L L1 L2 LT LR : List (Nat × Int32)} {P P1 P2 : Nat → Nat → Nat → Nat → Wd → Prop} {PT PR : Nat → Nat → Wd → Prop} {i i0 i1 i2 i3 v : Nat} {lu : Nat → Nat} {R X ty : Int32}
theorem EST.opA (h : GST kd wr m fM lev cur c w) (hc : c 0 < 60000) (a x y z : Int32) : ∃ u d, fX12_op a x y z w = some (Int32.ofNat (c 0), u) ∧ (d 0 = c 0 + 1 ∧ d 1 = c 1 ∧ d 2 = c 2 ∧ d 3 = c 3 ∧ d 4 = c 4 ∧ d 5 = c 5) ∧ (gi u 0 85 = gi w 0 85 ∧ gi u 0 86 = gi w 0 86) ∧ d = upC c 0 (c 0 + 1) ∧ ∀ i, EST kd wr m fM lev cur i i c d w u [] (fun b q b' q' g => (opW g b a x y z ∧ b' = b + 1) ∧ q' = q) 1 0 0 0 0 0 := by
  obtain ⟨u, o, E, r1, r2⟩ := EST.op h hc (a := a) (x := x) (y := y) (z := z)
  exact ⟨u, _, o, ⟨upC_s, upC_n (by omega), upC_n (by omega), upC_n (by omega), upC_n (by omega), upC_n (by omega)⟩, ⟨r1, r2⟩, rfl, E⟩
theorem EST.jmpA {a y z : Int32} {a0 a1 a2 a3 a4 a5 : Nat} (hd : d = upC c 0 (c 0 + 1)) (h0 : ∀ i, EST kd wr m fM lev cur i i c d w u [] (fun b q b' q' g => (opW g b a 0 y z ∧ b' = b + 1) ∧ q' = q) 1 0 0 0 0 0) (h : ∀ i, EST kd wr m fM lev cur i i d c2 u v' L P a0 a1 a2 a3 a4 a5) (hc : c 0 < 60000) :
    ∃ v2, fX12_patch (Int32.ofNat (c 0)) v' = some v2 ∧ (gi v2 0 85 = gi v' 0 85 ∧ gi v2 0 86 = gi v' 0 86) ∧ ∀ i, EST kd wr m fM lev cur i i c c2 w v2 L (fun b q b' q' g => opW g b a (Int32.ofNat b') y z ∧ P (b + 1) q b' q' g) (a0 + 1) a1 a2 a3 a4 a5 := by
  subst hd
  exact ⟨_, (g_patch (h 0).1.1 hc).1, ⟨gi_si1 (by omega), gi_si1 (by omega)⟩, fun i => EST.set Int32.ofNat (h0 i) (h i)⟩
theorem fe_2 {K n tv s x4 : Nat} {x : FEL} {rc : TX12_row} {k : Int32 → Int32 → Int32 → Int32 → Wd → Option (Int32 × Wd)} (hT : FVT kd wr m fM lev cur v R X ty LT PT) (hRd : FVR kd wr m fM lev cur v R X LR PR) (hv : v < 24000) (hv12 : gi fM 12 v = Int32.ofNat tv) (htv : tv ≤ m) (hn : n < 24000) (h8 : gi fM 8 n = Int32.ofNat v) (hx : x.1 < 24000) (hx8 : gi fM 8 x.1 = Int32.ofNat x.2.2.1.1) (hp : feV kd wr m fM lu lev cur K x.2.2.1) (hk0 : x.2.1 = 2) (h7 : gi fM 7 x.1 = 31) (hx9 : gi fM 9 x.1 = Int32.ofNat x.2.2.2.1.1) (hp2 : feV kd wr m fM lu lev cur K x.2.2.2.1) (hx10 : gi fM 10 x.1 = Int32.ofNat x.2.2.2.2.1) (hp3 : feV kd wr m fM lu lev cur K x.2.2.2.2) (hG : GST kd wr m fM lev cur c w) (hR : gi w 0 85 = R) (hX : gi w 0 86 = X) (hf : FITS c (feT x)) :
    ∃ u c', fX12_forCode_144 rc k (Int32.ofNat n) (Int32.ofNat s) (Int32.ofNat x4) (Int32.ofNat x.1) w = k (Int32.ofNat n) (Int32.ofNat s) (Int32.ofNat x4) (gi fM 11 x.1) u ∧ (gi u 0 85 = R ∧ gi u 0 86 = X) ∧ ∀ i, EST kd wr m fM lev cur i i c c' w u (feL fM lu cur K v ty LT LR x) (fun b q b' q' g => feP fM lu cur lev K PT PR s x4 x b b' g ∧ q' = q) (4 * feT x) (feT x / 2) (feT x / 2) (feT x / 2) 0 0 := by
  have hft : feT x = x.2.2.1.2 + x.2.2.2.1.2 + x.2.2.2.2.2 + 10 := by unfold feT; rw [if_neg (by omega), if_neg (by omega)]
  rw [hft] at hf ⊢
  have hfl : feL fM lu cur K v ty LT LR x = stL fM lu cur K v x.2.2.1.1 ty LT ++ mbL fM lu cur K x.2.2.2.1.1 1 ++ LT ++ LR ++ LR ++ mbL fM lu cur K x.2.2.2.2.1 1 := by unfold feL; rw [if_neg (by omega), if_neg (by omega)]
  rw [hfl]
  obtain ⟨hp24, hV, ⟨tx, hx12, htx⟩, hT1⟩ := hp2
  obtain ⟨hz24, hVz, ⟨tz, hz12, htz⟩, hTz1⟩ := hp3
  have hT0 := hp.2.2.2
  unfold FITS at hf
  obtain ⟨u1, c1, o1, ⟨r1, r1'⟩, E1⟩ := set_to hT hv hv12 htv hp hG hR hX (by unfold FITS; omega)
  have hb1 := (E1 0).2.2.2.2.2.2.2.1
  obtain ⟨u2, c2, o2, q2, ⟨r2, r2'⟩, d2, E2⟩ := EST.opA (E1 0).1 (by omega) 10 0 0 0
  obtain ⟨u3, c3, o3, ⟨r3, r3'⟩, E3⟩ := EST.mb (t := 1) (E2 0).1 hp24 hx12 htx hV (by unfold FIT; omega)
  have hb3 := (E3 0).2.2.2.2.2.2.2.1
  obtain ⟨u4, c4, o4, q4, ⟨r4, r4'⟩, d4, E4⟩ := EST.opA (E3 0).1 (by omega) 32 0 0 0
  obtain ⟨u5, c5, o5, q5, ⟨r5, r5'⟩, d5, E5⟩ := EST.opA (E4 0).1 (by omega) 12 0 0 0
  have R5 : gi u5 0 85 = R := r5.trans (r4.trans (r3.trans (r2.trans r1)))
  have X5 : gi u5 0 86 = X := r5'.trans (r4'.trans (r3'.trans (r2'.trans r1')))
  obtain ⟨u6, c6, o6, ⟨r6, r6'⟩, E6⟩ := hT c5 u5 (E5 0).1 R5 X5 (by omega) (by unfold FIT; omega)
  have hb6 := (E6 0).2.2.2.2.2.2.2.1
  obtain ⟨y7, u7, c7, o7, ⟨r7, r7'⟩, E7⟩ := hRd c6 u6 (E6 0).1 r6 r6' (by omega) (by unfold FIT; omega)
  have hb7 := (E7 0).2.2.2.2.2.2.2.1
  obtain ⟨u8, c8, o8, q8, ⟨r8, r8'⟩, d8, E8⟩ := EST.opA (E7 0).1 (by omega) 31 (Int32.ofNat (c2 0)) 0 0
  obtain ⟨u9, c9, o9, q9, ⟨r9, r9'⟩, d9, E9⟩ := EST.opA (E8 0).1 (by omega) 8 43 0 0
  obtain ⟨ua, ca, oa, qa, ⟨ra, ra'⟩, da, Ea⟩ := EST.opA (E9 0).1 (by omega) 7 1 0 0
  obtain ⟨ub, ob, ⟨rb, rb'⟩, Eb⟩ := EST.jmpA d2 E2 (fun i => ((E3 i).pos.seq ((E4 i).seq ((E5 i).pos.seq ((E6 i).seq ((E7 i).seq ((E8 i).seq ((E9 i).seq (Ea i)))))))) ) (by omega)
  have hbb := (Eb 0).2.2.2.2.2.2.2.1
  obtain ⟨uc, cc, oc, qc, ⟨rc', rc''⟩, dc, Ec⟩ := EST.opA (Eb 0).1 (by omega) 31 (Int32.ofNat (c2 0)) 0 0
  have RC : gi uc 0 85 = R := rc'.trans (rb.trans (ra.trans (r9.trans (r8.trans r7))))
  have XC : gi uc 0 86 = X := rc''.trans (rb'.trans (ra'.trans (r9'.trans (r8'.trans r7'))))
  obtain ⟨yd, ud, cd, od, ⟨rd, rd'⟩, Ed⟩ := hRd cc uc (Ec 0).1 RC XC (by omega) (by unfold FIT; omega)
  have hbd := (Ed 0).2.2.2.2.2.2.2.1
  obtain ⟨ue, ce, oe, ⟨re, re'⟩, Ee⟩ := EST.mb (t := 1) (Ed 0).1 hz24 hz12 htz hVz (by unfold FIT; omega)
  have hbe := (Ee 0).2.2.2.2.2.2.2.1
  obtain ⟨uf, cf, of, qf, ⟨rf, rf'⟩, df, Ef⟩ := EST.opA (Ee 0).1 (by omega) 28 0 0 0
  obtain ⟨ug, cg, og, qg, ⟨rg, rg'⟩, dg, Eg⟩ := EST.opA (Ef 0).1 (by omega) 30 (Int32.ofNat s) (Int32.ofNat (c4 0)) 0
  obtain ⟨uh, ch, oh, qh, ⟨rh, rh'⟩, dh, Eh⟩ := EST.opA (Eg 0).1 (by omega) 10 (Int32.ofNat x4) 0 0
  obtain ⟨uj, oj, ⟨rj, rj'⟩, Ej⟩ := EST.jmpA df Ef (fun i => (Eg i).seq (Eh i)) (by omega)
  refine ⟨uj, _, ?_, ⟨rj.trans (rh.trans (rg.trans (rf.trans (re.trans rd)))), rj'.trans (rh'.trans (rg'.trans (rf'.trans (re'.trans rd'))))⟩, fun i => (((E1 i).seq ((Eb i).seq ((Ec i).seq ((Ed i).seq ((Ee i).seq (Ej i)))))).fls (by simp)).wk (fun b q b' q' g hg => ?_) (by omega)⟩
  · have e2 : gi u2 0 64 = Int32.ofNat (c2 0) := (E2 0).1.1.2.2.1.1
    have e4 : gi u4 0 64 = Int32.ofNat (c4 0) := (E4 0).1.1.2.2.1.1
    have f8 : ∀ {c w}, GST kd wr m fM lev cur c w → gi w 8 n = Int32.ofNat v := fun h => (h.fx (k := 8) (by unfold PGM PGX; omega)).trans h8
    have hi : inb (Int32.ofNat n) 24000 = true := inb_iN hn (by omega)
    have hj : inb (Int32.ofNat x.1) 24000 = true := inb_iN hx (by omega)
    have ht : (Int32.ofNat n).toNatClampNeg = n := tc_iN (by omega)
    have ht' : (Int32.ofNat x.1).toNatClampNeg = x.1 := tc_iN (by omega)
    unfold fX12_forCode_144
    rw [if_neg (nlt0 (by omega)), if_pos hj, ht', hG.fx (k := 7) (by unfold PGM PGX; omega), h7, if_neg (by decide), if_pos hj, if_neg (by decide), if_pos hi, if_pos hj, ht, f8 hG, hG.fx (k := 8) (by unfold PGM PGX; omega), hx8, o1, bn_so, o2, bn2_so, e2, ltq, if_pos hj, (E2 0).1.fx (k := 9) (by unfold PGM PGX; omega), hx9, o3, bn2_so, o4, bn2_so, e4, ltq, o5, bn2_so, if_pos hi, f8 (E5 0).1, o6, bn2_so, if_pos hi, f8 (E6 0).1, o7, bn2_so, o8, bn2_so, o9, bn2_so, oa, bn2_so, ob, bn_so, oc, bn2_so, if_pos hi, f8 (Ec 0).1, od, bn2_so, if_pos hj, (Ed 0).1.fx (k := 10) (by unfold PGM PGX; omega), hx10, oe, bn2_so, of, bn2_so, og, bn2_so, oh, bn2_so, oj, bn_so, if_pos hj, (Ej 0).1.fx (k := 11) (by unfold PGM PGX; omega), ltq]
  · obtain ⟨b1, q1, ⟨g1, g2⟩, bx, qx, ⟨g3, b2, q2', ⟨⟨z1, z2⟩, g4, g5⟩, b3, q3, ⟨⟨g6, g7⟩, g8⟩, b4, q4', ⟨⟨z3, z4⟩, ⟨g9, g10⟩, g11⟩, b5, q5', ⟨g12, g13⟩, b6, q6, ⟨g14, g15⟩, b7, q7, ⟨⟨g16, g17⟩, g18⟩, b8, q8', ⟨⟨g19, g20⟩, g21⟩, ⟨g22, g23⟩, g24⟩, b9, q9', ⟨⟨g25, g26⟩, g27⟩, ba, qa', ⟨g28, g29⟩, bb, qb, ⟨g30, g31⟩, g32, bc, qc', ⟨⟨g33, g34⟩, g35⟩, ⟨g36, g37⟩, g38⟩ := hg
    subst g2 g5 g7 g8 g10 g11 g13 g15 g17 g18 g20 g21 g23 g24 g26 g27 g29 g31 g34 g35
    rw [← z1] at g16 g25
    rw [← z3] at g33
    exact ⟨Or.inr (Or.inr ⟨by omega, b1, b2, b5, b6, ba, bb, g1, g3, g4, g6, g9, g12, g14, g16, g19, g22, g25, g28, g30, g32, g33, g36, g37⟩), g38⟩
/-- ELEMENTS in a row -/
def fesT : List FEL → Nat
  | [] => 0
  | x :: r => feT x + fesT r
def fesL (fM : Wd) (lu : Nat → Nat) (cur K v : Nat) (ty : Int32) (LT LR : List (Nat × Int32)) : List FEL → List (Nat × Int32)
  | [] => []
  | x :: r => feL fM lu cur K v ty LT LR x ++ fesL fM lu cur K v ty LT LR r
def fesP (fM : Wd) (lu : Nat → Nat) (cur lev K : Nat) (PT PR : Nat → Nat → Wd → Prop) (s x4 : Nat) : List FEL → Nat → Nat → Wd → Prop
  | [], b, b', _ => b' = b
  | x :: r, b, b', g => ∃ b1, feP fM lu cur lev K PT PR s x4 x b b1 g ∧ fesP fM lu cur lev K PT PR s x4 r b1 b' g
theorem fe_loop {K n tv s x4 : Nat} {rc : TX12_row} (hT : FVT kd wr m fM lev cur v R X ty LT PT) (hRd : FVR kd wr m fM lev cur v R X LR PR) (hv : v < 24000) (hv12 : gi fM 12 v = Int32.ofNat tv) (htv : tv ≤ m) (hn : n < 24000) (h8 : gi fM 8 n = Int32.ofNat v) : ∀ (l : List FEL), (∀ x ∈ l, feS kd wr m fM lu lev cur K x) → ∀ (Y : Int32) (fo : Nat) (c : Nat → Nat) (w : Wd), nxC fM (l.map Prod.fst) Y → GST kd wr m fM lev cur c w → gi w 0 85 = R → gi w 0 86 = X → FITS c (fesT l) →
    ∃ u c', oX12_forCode_144 rc (fo + l.length + 1) (Int32.ofNat n) (Int32.ofNat s) (Int32.ofNat x4) Y w = some (0, u) ∧ ∀ i, EST kd wr m fM lev cur i i c c' w u (fesL fM lu cur K v ty LT LR l) (fun b q b' q' g => fesP fM lu cur lev K PT PR s x4 l b b' g ∧ q' = q) (4 * fesT l) (fesT l / 2) (fesT l / 2) (fesT l / 2) 0 0 := by
  intro l
  induction l with
  | nil =>
    intro _ Y fo c w hY hG hR hX hf
    have hY1 : Y = -1 := hY
    refine ⟨w, c, ?_, fun i => (EST.no hG (i := i)).wk (fun b q b' q' g hg => hg) (by omega)⟩
    show fX12_forCode_144 rc (oX12_forCode_144 rc fo) (Int32.ofNat n) (Int32.ofNat s) (Int32.ofNat x4) Y w = _
    unfold fX12_forCode_144
    rw [hY1, if_pos (by decide)]
  | cons x r ih =>
    intro hp Y fo c w hY hG hR hX hf
    have hs1 : fesT (x :: r) = feT x + fesT r := rfl
    rw [hs1] at hf ⊢
    unfold FITS at hf
    obtain ⟨hY1, hx24, hY2⟩ := hY
    obtain ⟨s1, s2, s3⟩ := hp x List.mem_cons_self
    have hone : ∃ u c', fX12_forCode_144 rc (oX12_forCode_144 rc (fo + r.length + 1)) (Int32.ofNat n) (Int32.ofNat s) (Int32.ofNat x4) (Int32.ofNat x.1) w = oX12_forCode_144 rc (fo + r.length + 1) (Int32.ofNat n) (Int32.ofNat s) (Int32.ofNat x4) (gi fM 11 x.1) u ∧ (gi u 0 85 = R ∧ gi u 0 86 = X) ∧ ∀ i, EST kd wr m fM lev cur i i c c' w u (feL fM lu cur K v ty LT LR x) (fun b q b' q' g => feP fM lu cur lev K PT PR s x4 x b b' g ∧ q' = q) (4 * feT x) (feT x / 2) (feT x / 2) (feT x / 2) 0 0 := by
      rcases s3 with ⟨k0, k1⟩ | ⟨k0, k1, k2, k3⟩ | ⟨k0, k1, k2, k3, k4, k5⟩
      · exact fe_0 hT hv hv12 htv hn h8 hx24 s1 s2 k0 k1 hG hR hX (by unfold FITS; omega)
      · exact fe_1 hT hv hv12 htv hn h8 hx24 s1 s2 k0 k1 k2 k3 hG hR hX (by unfold FITS; omega)
      · exact fe_2 hT hRd hv hv12 htv hn h8 hx24 s1 s2 k0 k1 k2 k3 k4 k5 hG hR hX (by unfold FITS; omega)
    obtain ⟨u1, c1, o1, ⟨r1, r2⟩, E1⟩ := hone
    have hb1 := (E1 0).2.2.2.2.2.2.2.1
    obtain ⟨u2, c2, o2, E2⟩ := ih (fun q hq => hp q (List.mem_cons_of_mem _ hq)) (gi fM 11 x.1) fo c1 u1 hY2 (E1 0).1 r1 r2 (by unfold FITS; omega)
    refine ⟨u2, c2, ?_, fun i => (((E1 i).seq (E2 i)).fls rfl).wk (fun b q b' q' g hg => ?_) (by omega)⟩
    · show fX12_forCode_144 rc (oX12_forCode_144 rc (fo + r.length + 1)) (Int32.ofNat n) (Int32.ofNat s) (Int32.ofNat x4) Y w = _
      rw [hY1, o1, o2]
    · obtain ⟨b1, q1, ⟨g1, g2⟩, g3, g4⟩ := hg
      subst g2
      exact ⟨⟨b1, g1, g3⟩, g4⟩
end EX
