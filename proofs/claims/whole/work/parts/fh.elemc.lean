/-! PASS 2, THE CLASS: ELEMENTS of a for -/
/-- an EXPR's words -/
def valC (fM fA : Wd) (lu : Nat → Nat) (cur lev K x : Nat) (b b' : Nat) (g : Wd) : Prop := FLX fM lu cur K 0 x 0 = [] → CDC fM fA lu lev K 0 x 0 b b' g
/-- an ELEMENT's faults -/
def elFc (fM : Wd) (lu : Nat → Nat) (cur K n : Nat) : List (Nat × Int32) := mbL fM lu cur K (nd fM 8 n) 1 ++ (if gi fM 7 n = 30 then [] else if gi fM 7 n = 32 then mbL fM lu cur K (nd fM 9 n) 2 else mbL fM lu cur K (nd fM 9 n) 1 ++ mbL fM lu cur K (nd fM 10 n) 1)
/-- and words: pl: where its place is made, sl: slot, H: where the STATEMENT begins -/
def elPc (fM fA : Wd) (lu : Nat → Nat) (cur lev K : Nat) (pl sl : Int32) (n H b b' : Nat) (g : Wd) : Prop :=
  gl g 41 b = wdC 40 0 0 ∧ gl g 41 (b + 1) = wdC 35 0 pl ∧ ∃ b1, valC fM fA lu cur lev K (nd fM 8 n) (b + 2) b1 g ∧ gl g 41 b1 = wdC 26 0 1 ∧
   ((gi fM 7 n = 30 ∧ gl g 41 (b1 + 1) = wdC 37 0 sl ∧ gl g 41 (b1 + 2) = jwC 33 H ∧ b' = b1 + 3)
   ∨ (gi fM 7 n = 32 ∧ ∃ b2, valC fM fA lu cur lev K (nd fM 9 n) (b1 + 1) b2 g ∧ gl g 41 b2 = jwC 34 b' ∧ gl g 41 (b2 + 1) = wdC 37 0 sl ∧ gl g 41 (b2 + 2) = jwC 33 H ∧ gl g 41 (b2 + 3) = wdC 33 0 (Int32.ofNat b) ∧ b' = b2 + 4)
   ∨ (gi fM 7 n = 31 ∧ ∃ b2 b3, gl g 41 (b1 + 1) = jwC 33 (b2 + 1) ∧ valC fM fA lu cur lev K (nd fM 9 n) (b1 + 2) b2 g ∧ gl g 41 b2 = wdC 36 0 0 ∧ gl g 41 (b2 + 1) = wdC 35 0 (Int32.ofNat (b1 + 2)) ∧ gl g 41 (b2 + 2) = wdC 35 0 pl ∧ gl g 41 (b2 + 3) = wdC 24 0 0 ∧ valC fM fA lu cur lev K (nd fM 10 n) (b2 + 4) b3 g ∧ gl g 41 b3 = wdC 39 0 0 ∧ gl g 41 (b3 + 1) = jwC 34 b' ∧ gl g 41 (b3 + 2) = wdC 37 0 sl ∧ gl g 41 (b3 + 3) = jwC 33 H ∧
      gl g 41 (b3 + 4) = wdC 40 0 0 ∧ gl g 41 (b3 + 5) = wdC 35 0 pl ∧ gl g 41 (b3 + 6) = wdC 35 0 pl ∧ gl g 41 (b3 + 7) = wdC 24 0 0 ∧ gl g 41 (b3 + 8) = wdC 35 0 (Int32.ofNat (b1 + 2)) ∧ gl g 41 (b3 + 9) = wdC 1 0 0 ∧ gl g 41 (b3 + 10) = wdC 26 0 1 ∧ gl g 41 (b3 + 11) = wdC 33 0 (Int32.ofNat (b2 + 1)) ∧ b' = b3 + 12))
section EC
variable {kd wr : Nat → Nat} {z : Nat} {fA fM : Wd} {lu : Nat → Nat} {lev cur : Nat} {pn : Nat → Int32} {base ob t t1 t2 t3 a a1 a2 a3 n s e d f l m p p1 : Nat} {w w1 w2 w3 w4 u v : Wd} {L L1 L2 L3 : List (Nat × Int32)} {P P1 P2 P3 : Nat → Nat → Wd → Prop} {B B1 B2 B3 : Nat} {C TK : Nat → Nat} {sc : Int32}
theorem EC.pos (h : EC kd wr z fA lu lev pn base ob t a a1 w u L P B) : EC kd wr z fA lu lev pn base ob t a a1 w u L (fun b b' g => (b = a ∧ b' = a1) ∧ P b b' g) B := by
  obtain ⟨h1, h2, h3, h4, h5, h6⟩ := h
  exact ⟨h1, h2, h3, h4, h5, fun g hg => ⟨⟨rfl, rfl⟩, h6 g hg⟩⟩
theorem c_ntake {k : Nat} (h : GC2 kd wr z fA lu lev pn t a base ob w) (hk : k ≤ 50) (hne : kd t ≠ k) : fX9_take (Int32.ofNat k) w = (false, w) := by
  have h3 := h.1.2.2.1 t
  unfold fX9_take
  rw [a_kind h.1, ltq, if_neg (fun e => hne ((eq_iN (by omega) (by omega)).mp e))]
theorem typ_c {K x cn : Nat} {ty : Int32} (hz : z ≤ 8193) (hA : ALC kd wr m z fA fM lu lev cur pn d x s e cn 295) (hK : 4 * x + 1 ≤ K) (hty : ty ≠ 0) : SPE kd wr z fA lu lev pn d s e 0 (mbL fM lu cur K x ty) (valC fM fA lu cur lev K x) (4 * (wr e - wr s) - 1) (fun w => RX2_typed 900 0 (Int32.ofNat d) ty 0 w) := by
  have hD := hA.1.2.2.1
  have := SPE.typed (ty := ty) (hA.2.1 K 899 hK (by omega)) (show s < z by have := hD.1; have := hD.2.1; omega)
  unfold mbL
  rw [hD.tk hz, mis_dif hty]
  exact this
/-- LINK and the jump to the STATEMENT -/
theorem c_body {sl : Int32} {bf : Nat} (h : GC2 kd wr z fA lu lev pn t a base ob w) (ha : a + 1 < 36872) : ∃ u, fX4_body sl (Int32.ofNat bf) w = (Int32.ofNat (a + 1), u) ∧ EFL kd wr z fA lu lev pn base ob t a (a + 2) w u [a + 1] [] (fun H b b' g => gl g 41 b = wdC 37 0 sl ∧ gl g 41 (b + 1) = jwC 33 H ∧ b' = b + 2) 2 ∧ gl u 41 (a + 1) = wdC 33 0 (Int32.ofNat bf) := by
  obtain ⟨w1, p1, p2⟩ := EC.put2 (x := 37) (c := sl) h (by omega)
  obtain ⟨w2, q1, q2⟩ := EC.put2 (x := 33) (c := Int32.ofNat bf) p2.1 (by omega)
  refine ⟨w2, ?_, ((EFL.ec p2).seq (EFL.hang q2)).wk (fun H b b' g hg => ?_) (by omega), (q2.2.2.2.2.2 w2 (fun _ _ _ => rfl)).1⟩
  · unfold fX4_body
    rw [p1, lt2q, q1, lt2q]
  · obtain ⟨b1, ⟨g1, g2⟩, g3, g4⟩ := hg
    rw [g2] at g3 g4
    exact ⟨g1, g3, g4⟩
theorem el_c (hc : CTX kd wr m z C TK fA fM lu lev cur pn) (hB : BYW kd wr m) {K tk lo lo' bf : Nat} {pl sl : Int32} (h : ELT kd fA fM sc d tk lo n s e lo') (hn : n < 24000) (he : e ≤ m) (hd : d ≤ 40) (hK : 96100 ≤ K) (hw : GC2 kd wr z fA lu lev pn s a base ob w) (hb : base ≤ 10 * d) (ho : ob ≤ 9 * d) (ha : a + (4 * (wr e - wr s) + 4) ≤ 36872) :
    s < e ∧ lo' = n + 1 ∧ ∃ p u a', fX4_element (Int32.ofNat d) pl sl (Int32.ofNat bf) w = some (Int32.ofNat p, u) ∧ EFL kd wr z fA lu lev pn base ob e a a' w u [p] (elFc fM lu cur K n) (elPc fM fA lu cur lev K pl sl n) (4 * (wr e - wr s) + 4) ∧ gl u 41 p = wdC 33 0 (Int32.ofNat bf) := by
  obtain ⟨hS, hFM, hPN, hwr, hz, hW, hz9, hk0⟩ := id hc
  obtain ⟨h0, h12, x, e1, c1, h8, hx, h4⟩ := h
  have hxn : x < n := by
    rcases h4 with h4 | ⟨_, _, y, c2, _, q1, q2⟩ | ⟨_, _, y, v, e2, c2, c3, _, _, q1, q2, _, q3⟩
    · omega
    · have := (PWR.agr 41 fM fM _ _ _ _ _ _ q2.2).1
      omega
    · have := (PWR.agr 41 fM fM _ _ _ _ _ _ q2.2).1
      have := (PWR.agr 41 fM fM _ _ _ _ _ _ q3.2).1
      omega
  have he1 : e1 ≤ e := by
    rcases h4 with h4 | ⟨_, _, y, c2, _, q1, q2⟩ | ⟨_, _, y, v, e2, c2, c3, _, _, q1, q2, _, q3⟩
    · omega
    · have := xw_lt _ _ _ _ (PWR_xw 41 q2.2)
      omega
    · have := xw_lt _ _ _ _ (PWR_xw 41 q2.2)
      have := xw_lt _ _ _ _ (PWR_xw 41 q3.2)
      omega
  have e8 : nd fM 8 n = x := by
    unfold nd
    rw [h8, tc_iN (by omega)]
  obtain ⟨hlt, hA⟩ := xpr_alc hc hx (by omega) (by omega) hd
  have hwx := hA.1.2.2.1.2.2.1
  have hwe : wr e1 ≤ wr e := by
    by_cases q : e1 = e
    · rw [q]; exact Nat.le_refl _
    · have := wr_mo hW e (s := e1) (by omega) he
      omega
  refine ⟨by omega, h0, ?_⟩
  -- the first part
  obtain ⟨w1, p1, p2⟩ := EC.put1 (x := 40) hw (by omega)
  obtain ⟨w2, q1, q2⟩ := EC.put2 (x := 35) (c := pl) p2.1 (by omega)
  obtain ⟨w3, a3, r1, r2⟩ := typ_c (K := K) (ty := 1) hz hA (by omega) (by decide) w2 (a + 1 + 1) base ob q2.1 hb ho (by omega)
  have hb3 := r2.2.2.2.2.1
  obtain ⟨w4, s1, s2⟩ := EC.put2 (x := 26) (c := 1) r2.1 (by omega)
  have r1' : RX2_typed 900 0 (Int32.ofNat d) 1 0 w2 = some (0, w3) := r1
  have E0 : EC kd wr z fA lu lev pn base ob e1 a (a3 + 1) w w4 (mbL fM lu cur K x 1) (fun b b' g => gl g 41 b = wdC 40 0 0 ∧ gl g 41 (b + 1) = wdC 35 0 pl ∧ ∃ b1, valC fM fA lu cur lev K x (b + 2) b1 g ∧ gl g 41 b1 = wdC 26 0 1 ∧ b' = b1 + 1) (4 * (wr e1 - wr s) + 2) := ((((p2.seq q2).seq r2).seq s2).wk (fun b b' g hg => by
    obtain ⟨b3, ⟨b2, ⟨b1, g1, g2⟩, g3⟩, g4, g5⟩ := hg
    rw [g1.2] at g2
    rw [g2.2] at g3
    exact ⟨g1.1, g2.1, b3, g3, g4, g5⟩) (by omega)).cL (by simp)
  rcases h4 with ⟨h7, _, hee, hk20, hk22⟩ | ⟨h7, hk22, y, c2, h9, hny, hy⟩ | ⟨h7, hk20, y, vv, e2, c2, c3, h9, h10, hnv, hy, hk21, hv⟩
  · -- one EXPR
    subst hee
    obtain ⟨u, b1, b2, b3⟩ := c_body (sl := sl) (bf := bf) s2.1 (by omega)
    refine ⟨a3 + 1 + 1, u, _, ?_, (((EFL.ec E0).seq b2).wk (fun H b b' g hg => ?_) (by omega)).cL ?_, b3⟩
    · unfold fX4_element
      rw [ltq, p1, lt2q, q1, lt2q, r1', bn2_so, s1, lt2q, show (20 : Int32) = Int32.ofNat 20 from rfl, c_ntake s2.1 (by omega) hk20, lt2q, if_neg (show ¬ (false = true) from by decide), show (22 : Int32) = Int32.ofNat 22 from rfl, c_ntake s2.1 (by omega) hk22, lt2q, if_neg (show ¬ (false = true) from by decide), b1, lt2q]
    · obtain ⟨b9, ⟨g1, g2, b1, g3, g4, g5⟩, g6, g7, g8⟩ := hg
      rw [g5] at g6 g7 g8
      exact ⟨g1, g2, b1, by rw [e8]; exact g3, g4, Or.inl ⟨h7, g6, g7, g8⟩⟩
    · unfold elFc
      rw [if_pos h7, e8]
  · -- while
    have e9 : nd fM 9 n = y := by
      unfold nd
      rw [h9, tc_iN (by omega)]
    obtain ⟨hlt2, hA2⟩ := xpr_alc hc hy (by omega) he hd
    have hwy := hA2.1.2.2.1.2.2.1
    have hw1 := hW e1 (by omega)
    obtain ⟨t1, t2⟩ := EC.take s2.1 (k := 22) (by omega) (by rw [hk22]; rfl)
    obtain ⟨v1, a4, x1, x2⟩ := typ_c (K := K) (ty := 2) hz hA2 (by omega) (by decide) _ (a3 + 1) base ob t2.1 hb ho (by omega)
    have hb4 := x2.2.2.2.2.1
    have x1' : RX2_typed 900 0 (Int32.ofNat d) 2 0 (si w4 4 9 (Int32.ofNat (e1 + 1))) = some (0, v1) := x1
    obtain ⟨v2, j1, j2⟩ := EC.put1 (x := 34) x2.1 (by omega)
    obtain ⟨v3, b1, b2, b3⟩ := c_body (sl := sl) (bf := bf) j2.1 (by omega)
    obtain ⟨v4, k1, k2⟩ := EC.put2 (x := 33) (c := Int32.ofNat a) b2.1 (by omega)
    obtain ⟨yy, v5, o1, o2, o3⟩ := EFL.jmp j2 (b2.seq (EFL.ec k2)) (by omega) (by decide)
    have hp4 : gl v4 41 (a4 + 1 + 1) = wdC 33 0 (Int32.ofNat bf) := by rw [(k2.2.2.2.1 41 _ (by unfold F2; omega)).2]; exact b3
    refine ⟨a4 + 1 + 1, v5, _, ?_, ((((EFL.ec (E0.pos)).seq (EFL.ec (t2.seq x2))).seq o2).wk (fun H b b' g hg => ?_) (by omega)).cL ?_, by rw [o3 _ (by omega)]; exact hp4⟩
    · unfold fX4_element
      rw [ltq, p1, lt2q, q1, lt2q, r1', bn2_so, s1, lt2q, show (20 : Int32) = Int32.ofNat 20 from rfl, c_ntake s2.1 (by omega) (by omega), lt2q, if_neg (show ¬ (false = true) from by decide), t1, lt2q, if_pos rfl, x1', bn2_so, j1, lt2q, b1, lt2q, show fX0_here w = Int32.ofNat a from hw.2.2.1, k1, lt2q, o1, lt2q]
    · obtain ⟨b9, ⟨b8, ⟨⟨g0, _⟩, g1, g2, b1, g3, g4, g5⟩, b7, g6, g7⟩, g8, b6, ⟨g9, g10, g11⟩, g12, g13⟩ := hg
      rw [g6, g5] at g7
      rw [g11] at g12 g13
      refine ⟨g1, g2, b1, by rw [e8]; exact g3, g4, Or.inr (Or.inl ⟨h7, b9, by rw [e9]; exact g7, g8, g9, g10, by rw [g0]; exact g12, g13⟩)⟩
    · unfold elFc
      rw [if_neg (by rw [h7]; decide), if_pos h7, e8, e9]
      simp
  · -- step
    have e9 : nd fM 9 n = y := by
      unfold nd
      rw [h9, tc_iN (by have := (PWR.agr 41 fM fM _ _ _ _ _ _ hv.2).1; omega)]
    have e10 : nd fM 10 n = vv := by
      unfold nd
      rw [h10, tc_iN (by omega)]
    have hyv := (PWR.agr 41 fM fM _ _ _ _ _ _ hv.2).1
    have hlt3' := xw_lt _ _ _ _ (PWR_xw 41 hv.2)
    obtain ⟨hlt2, hA2⟩ := xpr_alc hc hy (by omega) (by omega) hd
    obtain ⟨hlt3, hA3⟩ := xpr_alc hc hv (by omega) he hd
    have hwy := hA2.1.2.2.1.2.2.1
    have hwv := hA3.1.2.2.1.2.2.1
    have hw1 := hB.one hk20 (show e1 < m by omega)
    have hw2 := hB.one hk21 (show e2 < m by omega)
    rw [show wlN 20 = 4 from rfl] at hw1
    rw [show wlN 21 = 5 from rfl] at hw2
    obtain ⟨t1, t2⟩ := EC.take s2.1 (k := 20) (by omega) (by rw [hk20]; rfl)
    obtain ⟨v0, y1, y2⟩ := EC.put1 (x := 33) t2.1 (by omega)
    obtain ⟨v1, a4, x1, x2⟩ := typ_c (K := K) (ty := 1) hz hA2 (by omega) (by decide) _ (a3 + 1 + 1) base ob y2.1 hb ho (by omega)
    have hb4 := x2.2.2.2.2.1
    have x1' : RX2_typed 900 0 (Int32.ofNat d) 1 0 v0 = some (0, v1) := x1
    obtain ⟨v2, j1, j2⟩ := EC.put1 (x := 36) x2.1 (by omega)
    obtain ⟨n1, n2⟩ := EC.need j2.1 (k := 21) hk21 (by omega)
    obtain ⟨ya, v3, o1, o2⟩ := EC.jmp y2 ((x2.seq j2).seq n2) (by omega) (by decide)
    obtain ⟨v4, f1, f2⟩ := EC.put2 (x := 35) (c := Int32.ofNat (a3 + 1 + 1)) o2.1 (by omega)
    obtain ⟨v5, f3, f4⟩ := EC.put2 (x := 35) (c := pl) f2.1 (by omega)
    obtain ⟨v6, f5, f6⟩ := EC.put1 (x := 24) f4.1 (by omega)
    obtain ⟨v7, a5, z1, z2⟩ := typ_c (K := K) (ty := 1) hz hA3 (by omega) (by decide) _ (a4 + 1 + 1 + 1 + 1) base ob f6.1 hb ho (by omega)
    have hb5 := z2.2.2.2.2.1
    have z1' : RX2_typed 900 0 (Int32.ofNat d) 1 0 v6 = some (0, v7) := z1
    obtain ⟨v8, f7, f8⟩ := EC.put1 (x := 39) z2.1 (by omega)
    obtain ⟨v9, i1, i2⟩ := EC.put1 (x := 34) f8.1 (by omega)
    obtain ⟨u0, b1, b2, b3⟩ := c_body (sl := sl) (bf := bf) i2.1 (by omega)
    obtain ⟨u1, k1, k2⟩ := EC.put1 (x := 40) b2.1 (by omega)
    obtain ⟨u2, k3, k4⟩ := EC.put2 (x := 35) (c := pl) k2.1 (by omega)
    obtain ⟨u3, k5, k6⟩ := EC.put2 (x := 35) (c := pl) k4.1 (by omega)
    obtain ⟨u4, k7, k8⟩ := EC.put1 (x := 24) k6.1 (by omega)
    obtain ⟨u5, k9, k10⟩ := EC.put2 (x := 35) (c := Int32.ofNat (a3 + 1 + 1)) k8.1 (by omega)
    obtain ⟨u6, k11, k12⟩ := EC.put1 (x := 1) k10.1 (by omega)
    obtain ⟨u7, k13, k14⟩ := EC.put2 (x := 26) (c := 1) k12.1 (by omega)
    obtain ⟨u8, k15, k16⟩ := EC.put2 (x := 33) (c := Int32.ofNat (a4 + 1)) k14.1 (by omega)
    have ET := ((((((k2.seq k4).seq k6).seq k8).seq k10).seq k12).seq k14).seq k16
    obtain ⟨yy, u9, m1, m2, m3⟩ := EFL.jmp i2 (b2.seq (EFL.ec ET)) (by omega) (by decide)
    have hp8 : gl u8 41 (a5 + 1 + 1 + 1) = wdC 33 0 (Int32.ofNat bf) := by rw [(ET.2.2.2.1 41 _ (by unfold F2; omega)).2]; exact b3
    have EM1 := (((f2.seq f4).seq f6).seq z2).seq f8
    refine ⟨a5 + 1 + 1 + 1, u9, _, ?_, (((((EFL.ec (E0.pos)).seq (EFL.ec (t2.seq o2.pos))).seq (EFL.ec EM1)).seq m2).wk (fun H b b' g hg => ?_) (by omega)).cL ?_, by rw [m3 _ (by omega)]; exact hp8⟩
    · have hst : fX4_stepping (Int32.ofNat d) pl sl (Int32.ofNat bf) (si w4 4 9 (Int32.ofNat (e1 + 1))) = some (Int32.ofNat (a5 + 1 + 1 + 1), u9) := by
        unfold fX4_stepping
        rw [y1, lt2q, show fX0_here v0 = Int32.ofNat (a3 + 1 + 1) from y2.1.2.2.1, ltq, x1', bn2_so, j1, lt2q, show (21 : Int32) = Int32.ofNat 21 from rfl, n1, ltq, show fX0_here (si v2 4 9 (Int32.ofNat (e2 + 1))) = Int32.ofNat (a4 + 1) from n2.1.2.2.1, ltq, o1, lt2q, f1, lt2q, f3, lt2q, f5, lt2q, z1', bn2_so, f7, lt2q, i1, lt2q, b1, lt2q, k1, lt2q, k3, lt2q, k5, lt2q, k7, lt2q, k9, lt2q, k11, lt2q, k13, lt2q, k15, lt2q, m1, lt2q]
      unfold fX4_element
      rw [ltq, p1, lt2q, q1, lt2q, r1', bn2_so, s1, lt2q, t1, lt2q, if_pos rfl, hst, bn2_so]
    · obtain ⟨c9, ⟨c8, ⟨c7, ⟨⟨g0, g0'⟩, g1, g2, c6, g3, g4, g5⟩, c5, g6, ⟨g7, g7'⟩, g8, c4, ⟨c3, g9, g10, g11⟩, g12⟩, c1, ⟨d1, ⟨d2, ⟨d3, ⟨d4, d4'⟩, d5, d6⟩, d7, d8⟩, d9⟩, d10, d11⟩, g13, x6, ⟨g14, g15, g16⟩, x5, ⟨x4, ⟨x3, ⟨x2, ⟨x1, ⟨x0, ⟨xz, ⟨h1, h1'⟩, h2, h2'⟩, h3, h3'⟩, h4, h4'⟩, h5, h5'⟩, h6, h6'⟩, h7w, h7'⟩, h8w, h8'⟩ := hg
      subst g5
      subst g6
      subst g11
      subst g12
      subst d4'
      subst d6
      subst d8
      subst d11
      subst g16
      subst h1'
      subst h2'
      subst h3'
      subst h4'
      subst h5'
      subst h6'
      subst h7'
      rw [show a3 + 1 + 1 = c6 + 2 by omega] at d4 h5
      rw [show a4 + 1 = c3 + 1 by omega] at h8w
      exact ⟨g1, g2, c6, by rw [e8]; exact g3, g4, Or.inr (Or.inr ⟨h7, c3, c1, g8, by rw [e9]; exact g9, g10, d4, d5, d7, by rw [e10]; exact d9, d10, g13, g14, g15, h1, h2, h3, h4, h5, h6, h7w, h8w, h8'⟩)⟩
    · unfold elFc
      rw [if_neg (by rw [h7]; decide), if_neg (by rw [h7]; decide), e8, e9, e10]
      simp
end EC
