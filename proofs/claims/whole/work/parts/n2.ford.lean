/-! THE CLASS'S SECOND PASS: a for, its VARIABLE by other fuel than its ELEMENTS -/
/-- a for, its VARIABLE by other fuel -/
def PFd (fM fA : Wd) (lu : Nat → Nat) (cur lev K Kx x sg : Nat) (xs : List Nat) (P2 : Nat → Nat → Nat → Wd → Prop) (b b' Z : Nat) (g : Wd) : Prop :=
  gl g 41 b = wdC 40 0 0 ∧ sg + 1 ≤ Z ∧ ∃ b1 b2 b3, gl g 41 (b + 1) = jwC 33 (b1 + 1) ∧ (FLX fM lu cur Kx 1 x 1 = [] → CDC fM fA lu lev Kx 1 x 0 (b + 2) b1 g) ∧ gl g 41 b1 = wdC 36 0 0 ∧ elsPc fM fA lu cur lev K (Int32.ofNat (b + 2)) (Int32.ofNat sg) xs (b2 + 1) (b1 + 1) b2 g ∧ gl g 41 b2 = jwC 33 b' ∧ P2 (b2 + 1) b3 Z g ∧ gl g 41 b3 = wdC 38 0 (Int32.ofNat sg) ∧ b' = b3 + 1
section ND2
variable {kd wr nm TK : Nat → Nat} {z : Nat} {fA fM : Wd} {SL : Nat → List Nat} {NS ns SZ lev cur m : Nat} {pn : Nat → Int32} {i0 i1 t e e1 e2 d K x lo lo2 lo' tk sg kp nsc nsc1 B2 : Nat} {stk : List Nat} {L2 : List (Nat × Int32)} {P2 : Nat → Nat → Nat → Wd → Prop} {C : Nat → Nat} {sc : Int32}
theorem s_ford {Kx : Nat} {rc rc0 : TX4_block} {xs : List Nat} (hc : CTX kd wr m z C TK fA fM (luN nm TK SL stk) lev cur pn) (hB : BYW kd wr m) (h18 : kd t = 18) (hd : d < 40) (hK : 96100 ≤ K) (hKx : 96100 ≤ Kx) (hx : PLC kd sc lo x (d + 1) (t + 1) e1 fA fM) (hxn : x < 24000) (h50 : kd e1 = 50) (hel : CHNW kd fM 40 (ELT kd fA fM sc (d + 1) tk) xs lo2 (e1 + 1) e2 lo') (hlo : lo' ≤ 24000) (h19 : kd e2 = 19) (he : e2 < m) (hsg : sg + 1 ≤ SZ) (hi : i0 ≤ ns) (h7 : ∀ w, rc 7 (Int32.ofNat d) 0 0 w = fX4_loop rc0 (Int32.ofNat d) w)
    (hS : SSC kd wr nm TK z fA SL NS ns SZ lev pn (sg + 1) kp nsc nsc1 i0 i1 (e2 + 1) e stk L2 P2 B2 (fun w => rc0 4 (Int32.ofNat (d + 1)) 0 0 w)) :
    SSC kd wr nm TK z fA SL NS ns SZ lev pn sg kp nsc nsc1 i0 i1 t e stk (FLX fM (luN nm TK SL stk) cur Kx 1 x 1 ++ difT 1 (tyP fM (luN nm TK SL stk) cur 1 x) (t + 1) ++ elsFc fM (luN nm TK SL stk) cur K xs ++ L2) (PFd fM fA (luN nm TK SL stk) cur lev K Kx x sg xs P2) (4 * (wr (e2 + 1) - wr t) + B2) (fX4_statement_61 rc (Int32.ofNat d)) := by
  obtain ⟨hSY, hFM, hPN, hwr, hz, hW, hz9, hk0⟩ := id hc
  intro w a sz hG ha
  have hf := hG.cfit
  have hlt := els_lt _ _ _ hel
  obtain ⟨p1, p2, p3⟩ := plc_spe hc hx hxn (by omega) (f := 1) (by omega) (show 4 * x + 1 ≤ Kx by omega)
  have m1 := hW t (by omega)
  have m2 := wr_mo hW e1 p1 (by omega)
  have m3 := hW e1 (by omega)
  have m4 := wr_mo hW e2 (s := e1 + 1) (by omega) (by omega)
  have m5 := hW e2 he
  obtain ⟨w0, q1, q2⟩ := EC.put1 (x := 40) hG.gc (by omega)
  obtain ⟨o1, o2⟩ := EC.opn q2.1 (d := d) (by omega) (by omega) hd
  obtain ⟨w2, j1, j2⟩ := EC.put1 (x := 33) o2.1 (by omega)
  obtain ⟨w3, a1, r1, r2⟩ := p3 w2 (a + 1 + 1) 0 0 j2.1 (by omega) (by omega) (by omega)
  have hb1 := r2.2.2.2.2.1
  have E2 := r2.seq (EC.check (x := 1) (y := tyP fM (luN nm TK SL stk) cur 1 x) (s := t + 1) r2.1 (by omega))
  obtain ⟨w4, k1, k2⟩ := EC.put1 (x := 36) E2.1 (by omega)
  obtain ⟨y5, w5, l1, l2⟩ := EC.jmp j2 (E2.seq k2) (by omega) (by decide)
  obtain ⟨n1, n2⟩ := EC.need l2.1 (k := 50) h50 (by omega)
  have E3 := ESC.ec (i := i0) hG ((((q2.pos).seq o2).seq l2).seq n2) hi
  obtain ⟨w6, sz1, t1, t2⟩ := ESC.take (n := 1) (i := i0) E3.1 (by omega) hi
  have ht5 := t2.2.2.2.2.1
  obtain ⟨fo, hfo⟩ := FU_ge (k := xs.length + 1) (by omega)
  obtain ⟨qs, u, a2, v1, v2, v3, v4, v5⟩ := els_c (rc := rc0) (x3 := Int32.ofNat (a + 1)) (sl := Int32.ofNat sg) (base := 0) (ob := 0) hc hB (show e2 ≤ m by omega) hlo (by omega) (show d + 1 ≤ 40 by omega) hK (by omega) (by omega) xs lo2 (e1 + 1) hel [] 0 (fo + xs.length) (a1 + 1) w6 t2.1.gc (by omega) (by omega) (by omega) trivial (fun p hp => absurd hp (by simp)) List.nodup_nil
  rw [List.append_nil] at v1 v3 v4
  have hb2 := v2.2.2.2.2.1
  obtain ⟨n3, n4⟩ := EC.need v2.1 (k := 19) h19 (by omega)
  obtain ⟨w7, x1, x2⟩ := EC.put1 (x := 33) n4.1 (by omega)
  obtain ⟨u0, u1, y1, y2, y3⟩ := EFL.exit (v2.seq (EFL.ec n4)) x2 (by
    rw [List.nil_append]
    exact v3.agr (fun p _ => rfl)) (by rw [List.nil_append]; exact v4) (by omega) (by omega) (by rw [List.nil_append, v5]; omega)
  rw [List.nil_append] at y1
  have E4 := ESC.ec (i := i0) t2.1 y2 hi
  have J4 := ESC.ec (i := i0) E4.1 y3 hi
  obtain ⟨w8, a3, sz2, z1, z2⟩ := hS u1 (a2 + 1) sz1 J4.1 (by omega)
  have hb3 := z2.2.2.2.2.1
  obtain ⟨w9, c1, c2⟩ := EC.put2 (x := 38) (c := Int32.ofNat sg) z2.1.gc (by omega)
  have E5 := z2.seq (ESC.ec (i := i1) z2.1 c2 (by omega))
  obtain ⟨y10, w10, d1, d2⟩ := ESC.jmp J4 E5 (by omega) (by decide)
  have hd2 := d2.1.cfit
  have d5 := d2.2.2.2.2.1
  have E6 := ESC.give (n := sg) (i := i1) d2.1 (by omega) (by omega)
  refine ⟨_, _, _, ?_, ((((((E3.seq t2).seq E4).seq d2).seq E6)).wk (fun b b' Z g hg => ?_) (by omega)).cL ?_⟩
  · have r1' : RX2_typed 900 7 (Int32.ofNat (d + 1)) 0 0 w2 = some (tyP fM (luN nm TK SL stk) cur 1 x, w3) := r1
    have z1' : rc0 4 (Int32.ofNat (d + 1)) 0 0 u1 = some (0, w8) := z1
    unfold fX4_statement_61
    rw [ltq, a_kind hG.1, h18, if_neg (by decide), if_neg (by decide), if_neg (by decide), if_neg (by decide), if_pos (show Int32.ofNat 18 = 18 from rfl), q1, lt2q, h7]
    have hl95 : oX4_loop_95 rc0 FU (Int32.ofNat (d + 1)) (Int32.ofNat (a + 1)) (Int32.ofNat sg) 0 0 w6 = fX4_loop_120 rc0 (oX4_loop_95 rc0 (fo + xs.length)) (Int32.ofNat (d + 1)) (Int32.ofNat (a + 1)) (Int32.ofNat sg) (Int32.ofNat (([] : List Nat).headD 0)) (Int32.ofNat 0) w6 := by
      rw [hfo, ← Nat.add_assoc]
      show fX4_loop_95 rc0 (oX4_loop_95 rc0 (fo + xs.length)) _ _ _ _ _ w6 = _
      unfold fX4_loop_95
      rw [if_neg (by decide), if_pos rfl]
      rfl
    unfold fX4_loop
    rw [o1, lt2q, j1, lt2q, ltq, a_at j2.1.1, r1', bn2_so, ltq, k1, lt2q, l1, lt2q, show (50 : Int32) = Int32.ofNat 50 from rfl, n1, ltq, show (1 : Int32) = Int32.ofNat 1 from rfl, t1, lt2q, hl95, v1]
    unfold fX4_loop_140
    rw [show (19 : Int32) = Int32.ofNat 19 from rfl, n3, ltq, x1, lt2q, y1, bn_so, z1', bn2_so, c1, lt2q, d1, lt2q, ltq, bn2_so]
  · obtain ⟨b4, ⟨b5, ⟨b6, ⟨b7, ⟨b8, ⟨b9, ⟨b10, ⟨⟨g0, g0'⟩, g1, g1'⟩, g2⟩, g3, c1, ⟨c2, g4, g4'⟩, g5, g5'⟩, g6⟩, g7, g7'⟩, c3, g8, g8'⟩, g9, c4, g10, g11, g11'⟩, g12⟩ := hg
    rw [g2, g1'] at g3 g4
    rw [← g4'] at g4
    rw [g5'] at g3 g6
    rw [← g8'] at g8
    rw [g7, g6, ad1_iN, ← g0] at g8
    rw [g12]
    exact ⟨g1, g7', c1, b5, c4, g3, g4, g5, g8, g9, g10, g11, g11'⟩
  · simp
end ND2
