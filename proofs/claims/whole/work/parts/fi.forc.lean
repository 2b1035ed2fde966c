/-! PASS 2, THE CLASS: for -/
/-- ELEMENTS in a row: faults and words -/
def elsFc (fM : Wd) (lu : Nat → Nat) (cur K : Nat) (xs : List Nat) : List (Nat × Int32) := xs.flatMap (elFc fM lu cur K)
def elsPc (fM fA : Wd) (lu : Nat → Nat) (cur lev K : Nat) (pl sl : Int32) : List Nat → Nat → Nat → Nat → Wd → Prop
  | [], _, b, b', _ => b' = b
  | n :: r, H, b, b', g => ∃ b1, elPc fM fA lu cur lev K pl sl n H b b1 g ∧ elsPc fM fA lu cur lev K pl sl r H b1 b' g
/-- a for -/
def PFc (fM fA : Wd) (lu : Nat → Nat) (cur lev K x sg : Nat) (xs : List Nat) (P2 : Nat → Nat → Nat → Wd → Prop) (b b' Z : Nat) (g : Wd) : Prop :=
  gl g 41 b = wdC 40 0 0 ∧ sg + 1 ≤ Z ∧ ∃ b1 b2 b3, gl g 41 (b + 1) = jwC 33 (b1 + 1) ∧ (FLX fM lu cur K 1 x 1 = [] → CDC fM fA lu lev K 1 x 0 (b + 2) b1 g) ∧ gl g 41 b1 = wdC 36 0 0 ∧ elsPc fM fA lu cur lev K (Int32.ofNat (b + 2)) (Int32.ofNat sg) xs (b2 + 1) (b1 + 1) b2 g ∧ gl g 41 b2 = jwC 33 b' ∧ P2 (b2 + 1) b3 Z g ∧ gl g 41 b3 = wdC 38 0 (Int32.ofNat sg) ∧ b' = b3 + 1
section EC
variable {kd wr : Nat → Nat} {z : Nat} {fA fM : Wd} {lu : Nat → Nat} {lev cur : Nat} {pn : Nat → Int32} {base ob t a n s e d m tk lo lo' K : Nat} {w u : Wd} {C TK : Nat → Nat} {sc : Int32}
theorem elt_lt (h : ELT kd fA fM sc d tk lo n s e lo') : lo < lo' ∧ lo' = n + 1 ∧ s < e := by
  obtain ⟨h0, h12, x, e1, c1, h8, hx, h4⟩ := h
  have h1 := (PWR.agr 41 fM fM _ _ _ _ _ _ hx.2).1
  have h2 := xw_lt _ _ _ _ (PWR_xw 41 hx.2)
  rcases h4 with h4 | ⟨_, _, y, c2, _, q1, q2⟩ | ⟨_, _, y, v, e2, c2, c3, _, _, q1, q2, _, q3⟩
  · omega
  · have := (PWR.agr 41 fM fM _ _ _ _ _ _ q2.2).1
    have := xw_lt _ _ _ _ (PWR_xw 41 q2.2)
    omega
  · have := (PWR.agr 41 fM fM _ _ _ _ _ _ q2.2).1
    have := (PWR.agr 41 fM fM _ _ _ _ _ _ q3.2).1
    have := xw_lt _ _ _ _ (PWR_xw 41 q2.2)
    have := xw_lt _ _ _ _ (PWR_xw 41 q3.2)
    omega
theorem els_lt : ∀ (xs : List Nat) (lo s : Nat), CHNW kd fM 40 (ELT kd fA fM sc d tk) xs lo s e lo' → lo < lo' ∧ s < e ∧ xs.length + s ≤ e := by
  intro xs
  induction xs with
  | nil => exact fun _ _ h => h.elim
  | cons x r ih =>
    intro lo s h
    cases r with
    | nil =>
      have := elt_lt h.1
      have hl : ([x] : List Nat).length = 1 := rfl
      omega
    | cons y r =>
      obtain ⟨e1, l1, h1, h2, h3, h4⟩ := h
      have := elt_lt h1
      have := ih _ _ h4
      have hl : (x :: y :: r).length = (y :: r).length + 1 := rfl
      omega
theorem els_c {rc : TX4_block} {x3 sl : Int32} (hc : CTX kd wr m z C TK fA fM lu lev cur pn) (hB : BYW kd wr m) (he : e ≤ m) (hlo : lo' ≤ 24000) (hk40 : kd e ≠ 40) (hd : d ≤ 40) (hK : 96100 ≤ K) (hb : base ≤ 10 * d) (ho : ob ≤ 9 * d) : ∀ (xs : List Nat) (lo s : Nat), CHNW kd fM 40 (ELT kd fA fM sc d tk) xs lo s e lo' →
    ∀ (ps : List Nat) (i f a : Nat) (w : Wd), GC2 kd wr z fA lu lev pn s a base ob w → a + (4 * (wr e - wr s) + 4) ≤ 36872 → xs.length ≤ f → i ≤ s → LNKC w ps → (∀ p ∈ ps, p < a) → ps.Nodup →
    ∃ qs u a', fX4_loop_120 rc (oX4_loop_95 rc f) (Int32.ofNat d) x3 sl (Int32.ofNat (ps.headD 0)) (Int32.ofNat i) w = fX4_loop_140 rc (Int32.ofNat d) sl (Int32.ofNat ((qs ++ ps).headD 0)) u ∧ EFL kd wr z fA lu lev pn base ob e a a' w u qs (elsFc fM lu cur K xs) (elsPc fM fA lu cur lev K (x3 + 1) sl xs) (4 * (wr e - wr s) + 4) ∧ LNKC u (qs ++ ps) ∧ (qs ++ ps).Nodup ∧ qs.length = xs.length := by
  obtain ⟨hS, hFM, hPN, hwr, hz, hW, hz9, hk0⟩ := id hc
  intro xs
  induction xs with
  | nil => exact fun _ _ h => h.elim
  | cons x r ih =>
    intro lo s h ps i f a w hw ha hf hi hL hps hN
    -- the first of them
    have hfirst : ∀ (e1 l1 : Nat), ELT kd fA fM sc d tk lo x s e1 l1 → x < 24000 → e1 ≤ m → wr e1 ≤ wr e → ∃ p u a', fX4_element (Int32.ofNat d) (x3 + 1) sl (Int32.ofNat (ps.headD 0)) w = some (Int32.ofNat p, u) ∧ EFL kd wr z fA lu lev pn base ob e1 a a' w u [p] (elFc fM lu cur K x) (elPc fM fA lu cur lev K (x3 + 1) sl x) (4 * (wr e1 - wr s) + 4) ∧ LNKC u (p :: ps) ∧ (p :: ps).Nodup ∧ a ≤ p ∧ p < a' := fun e1 l1 h1 hx he1 hwe => by
      obtain ⟨_, _, p, u, a', u1, u2, u3⟩ := el_c (bf := ps.headD 0) (pl := x3 + 1) (sl := sl) hc hB h1 hx he1 hd hK hw hb ho (by omega)
      have hp := u2.2.2.2.2.2.1 p List.mem_cons_self
      refine ⟨p, u, a', u1, u2, ⟨u3, hL.agr (fun q hq => (u2.2.2.2.1 41 q (by have := hps q hq; unfold F2; omega)).2)⟩, List.nodup_cons.mpr ⟨fun hq => by have := hps p hq; omega, hN⟩, hp⟩
    have hln : (x :: r).length = r.length + 1 := rfl
    cases r with
    | nil =>
      obtain ⟨h1, _⟩ := h
      have hlt := elt_lt h1
      obtain ⟨p, u, a', u1, u2, u3, u4, u5, u6⟩ := hfirst e lo' h1 (by omega) he (Nat.le_refl _)
      refine ⟨[p], u, a', ?_, (u2.wk (fun H b b' g hg => ⟨b', hg, rfl⟩) (Nat.le_refl _)).cL (by unfold elsFc; simp), u3, u4, rfl⟩
      obtain ⟨f, rfl⟩ : ∃ f', f = f' + 1 := ⟨f - 1, by have : ([] : List Nat).length = 0 := rfl; omega⟩
      unfold fX4_loop_120
      rw [u1, bn2_so, ad1_iN, ltq]
      show fX4_loop_95 rc (oX4_loop_95 rc f) _ _ _ _ _ u = _
      unfold fX4_loop_95
      rw [if_neg (show ¬ ((8193 : Int32) ≤ Int32.ofNat (i + 1)) from nle_iN (a := 8193) (by omega) (by omega)), if_neg (show ¬ (Int32.ofNat (i + 1) = 0) from of_ne (k := 0) (by omega) (by omega) (by omega)), show (40 : Int32) = Int32.ofNat 40 from rfl, c_ntake u2.1 (by omega) hk40, lt2q, if_neg (show ¬ (false = true) from by decide)]
      rfl
    | cons y r =>
      obtain ⟨e1, l1, h1, hk, h11, h4⟩ := h
      have hlt := elt_lt h1
      have hlt2 := els_lt _ _ _ h4
      have hwe := wr_mo hW e (s := e1) (by omega) he
      have hw1 := hW e1 (by omega)
      have hwe2 := wr_mo hW e (s := e1 + 1) (by omega) he
      have hws := wr_mo hW e1 (s := s) (by omega) (by omega)
      obtain ⟨p, u, a', u1, u2, u3, u4, u5, u6⟩ := hfirst e1 l1 h1 (by omega) (by omega) (by omega)
      have hb5 := u2.2.2.2.2.1
      obtain ⟨t1, t2⟩ := EC.take u2.1 (k := 40) (by omega) (by rw [hk]; rfl)
      obtain ⟨f, rfl⟩ : ∃ f', f = f' + 1 := ⟨f - 1, by omega⟩
      obtain ⟨qs, v, a2, v1, v2, v3, v4, v5⟩ := ih l1 (e1 + 1) h4 (p :: ps) (i + 1) f a' _ t2.1 (by omega) (by omega) (by omega) (u3.agr (fun _ _ => rfl)) (fun q hq => by
        rcases List.mem_cons.mp hq with rfl | hq
        · exact u6
        · have := hps q hq; omega) u4
      have hap : (qs ++ [p]) ++ ps = qs ++ p :: ps := by simp
      refine ⟨qs ++ [p], v, a2, ?_, (((u2.seq (EFL.ec t2)).seq v2).wk (fun H b b' g hg => ?_) (by omega)).cL ?_, by rw [hap]; exact v3, by rw [hap]; exact v4, by rw [List.length_append, v5]; rfl⟩
      · rw [hap]
        unfold fX4_loop_120
        rw [u1, bn2_so, ad1_iN, ltq]
        show fX4_loop_95 rc (oX4_loop_95 rc f) _ _ _ _ _ u = _
        unfold fX4_loop_95
        rw [if_neg (show ¬ ((8193 : Int32) ≤ Int32.ofNat (i + 1)) from nle_iN (a := 8193) (by omega) (by omega)), if_neg (show ¬ (Int32.ofNat (i + 1) = 0) from of_ne (k := 0) (by omega) (by omega) (by omega)), t1, lt2q, if_pos rfl]
        exact v1
      · obtain ⟨b1, ⟨b2, g1, g2⟩, g3⟩ := hg
        rw [g2] at g3
        exact ⟨b2, g1, g3⟩
      · unfold elsFc
        simp
end EC
section ES
variable {kd wr nm TK : Nat → Nat} {z : Nat} {fA fM : Wd} {SL : Nat → List Nat} {NS ns SZ lev cur m : Nat} {pn : Nat → Int32} {i0 i1 t e e1 e2 d K x lo lo2 lo' tk sg kp nsc nsc1 B2 : Nat} {stk : List Nat} {L2 : List (Nat × Int32)} {P2 : Nat → Nat → Nat → Wd → Prop} {C : Nat → Nat} {sc : Int32}
theorem s_for {rc rc0 : TX4_block} {xs : List Nat} (hc : CTX kd wr m z C TK fA fM (luN nm TK SL stk) lev cur pn) (hB : BYW kd wr m) (h18 : kd t = 18) (hd : d < 40) (hK : 96100 ≤ K) (hx : PLC kd sc lo x (d + 1) (t + 1) e1 fA fM) (hxn : x < 24000) (h50 : kd e1 = 50) (hel : CHNW kd fM 40 (ELT kd fA fM sc (d + 1) tk) xs lo2 (e1 + 1) e2 lo') (hlo : lo' ≤ 24000) (h19 : kd e2 = 19) (he : e2 < m) (hsg : sg + 1 ≤ SZ) (hi : i0 ≤ ns) (h7 : ∀ w, rc 7 (Int32.ofNat d) 0 0 w = fX4_loop rc0 (Int32.ofNat d) w)
    (hS : SSC kd wr nm TK z fA SL NS ns SZ lev pn (sg + 1) kp nsc nsc1 i0 i1 (e2 + 1) e stk L2 P2 B2 (fun w => rc0 4 (Int32.ofNat (d + 1)) 0 0 w)) :
    SSC kd wr nm TK z fA SL NS ns SZ lev pn sg kp nsc nsc1 i0 i1 t e stk (FLX fM (luN nm TK SL stk) cur K 1 x 1 ++ difT 1 (tyP fM (luN nm TK SL stk) cur 1 x) (t + 1) ++ elsFc fM (luN nm TK SL stk) cur K xs ++ L2) (PFc fM fA (luN nm TK SL stk) cur lev K x sg xs P2) (4 * (wr (e2 + 1) - wr t) + B2) (fX4_statement_61 rc (Int32.ofNat d)) := by
  obtain ⟨hSY, hFM, hPN, hwr, hz, hW, hz9, hk0⟩ := id hc
  intro w a sz hG ha
  have hf := hG.cfit
  have hlt := els_lt _ _ _ hel
  obtain ⟨p1, p2, p3⟩ := plc_spe hc hx hxn (by omega) (f := 1) (by omega) (show 4 * x + 1 ≤ K by omega)
  have m1 := hW t (by omega)
  have m2 := wr_mo hW e1 p1 (by omega)
  have m3 := hW e1 (by omega)
  have m4 := wr_mo hW e2 (s := e1 + 1) (by omega) (by omega)
  have m5 := hW e2 he
  obtain ⟨w0, q1, q2⟩ := EC.put1 (x := 40) hG.gc (by omega)
  obtain ⟨o1, o2⟩ := EC.opn q2.1 (d := d) (by omega) (by omega) hd
  obtain ⟨w2, j1, j2⟩ := EC.put1 (x := 33) o2.1 (by omega)
  obtain ⟨w3, a1, r1, r2⟩ := p3 w2 (a + 1 + 1) 0 0 j2.1 (by omega) (by omega) (by omega)
  have hb1 := r2.2.2.2.2.1
  have E2 := r2.seq (EC.check (x := 1) (y := tyP fM (luN nm TK SL stk) cur 1 x) (s := t + 1) r2.1 (by omega))
  obtain ⟨w4, k1, k2⟩ := EC.put1 (x := 36) E2.1 (by omega)
  obtain ⟨y5, w5, l1, l2⟩ := EC.jmp j2 (E2.seq k2) (by omega) (by decide)
  obtain ⟨n1, n2⟩ := EC.need l2.1 (k := 50) h50 (by omega)
  have E3 := ESC.ec (i := i0) hG ((((q2.pos).seq o2).seq l2).seq n2) hi
  obtain ⟨w6, sz1, t1, t2⟩ := ESC.take (n := 1) (i := i0) E3.1 (by omega) hi
  have ht5 := t2.2.2.2.2.1
  obtain ⟨fo, hfo⟩ := FU_ge (k := xs.length + 1) (by omega)
  obtain ⟨qs, u, a2, v1, v2, v3, v4, v5⟩ := els_c (rc := rc0) (x3 := Int32.ofNat (a + 1)) (sl := Int32.ofNat sg) (base := 0) (ob := 0) hc hB (show e2 ≤ m by omega) hlo (by omega) (show d + 1 ≤ 40 by omega) hK (by omega) (by omega) xs lo2 (e1 + 1) hel [] 0 (fo + xs.length) (a1 + 1) w6 t2.1.gc (by omega) (by omega) (by omega) trivial (fun p hp => absurd hp (by simp)) List.nodup_nil
  rw [List.append_nil] at v1 v3 v4
  have hb2 := v2.2.2.2.2.1
  obtain ⟨n3, n4⟩ := EC.need v2.1 (k := 19) h19 (by omega)
  obtain ⟨w7, x1, x2⟩ := EC.put1 (x := 33) n4.1 (by omega)
  obtain ⟨u0, u1, y1, y2, y3⟩ := EFL.exit (v2.seq (EFL.ec n4)) x2 (by
    rw [List.nil_append]
    exact v3.agr (fun p _ => rfl)) (by rw [List.nil_append]; exact v4) (by omega) (by omega) (by rw [List.nil_append, v5]; omega)
  rw [List.nil_append] at y1
  have E4 := ESC.ec (i := i0) t2.1 y2 hi
  have J4 := ESC.ec (i := i0) E4.1 y3 hi
  obtain ⟨w8, a3, sz2, z1, z2⟩ := hS u1 (a2 + 1) sz1 J4.1 (by omega)
  have hb3 := z2.2.2.2.2.1
  obtain ⟨w9, c1, c2⟩ := EC.put2 (x := 38) (c := Int32.ofNat sg) z2.1.gc (by omega)
  have E5 := z2.seq (ESC.ec (i := i1) z2.1 c2 (by omega))
  obtain ⟨y10, w10, d1, d2⟩ := ESC.jmp J4 E5 (by omega) (by decide)
  have hd2 := d2.1.cfit
  have d5 := d2.2.2.2.2.1
  have E6 := ESC.give (n := sg) (i := i1) d2.1 (by omega) (by omega)
  refine ⟨_, _, _, ?_, ((((((E3.seq t2).seq E4).seq d2).seq E6)).wk (fun b b' Z g hg => ?_) (by omega)).cL ?_⟩
  · have r1' : RX2_typed 900 7 (Int32.ofNat (d + 1)) 0 0 w2 = some (tyP fM (luN nm TK SL stk) cur 1 x, w3) := r1
    have z1' : rc0 4 (Int32.ofNat (d + 1)) 0 0 u1 = some (0, w8) := z1
    unfold fX4_statement_61
    rw [ltq, a_kind hG.1, h18, if_neg (by decide), if_neg (by decide), if_neg (by decide), if_neg (by decide), if_pos (show Int32.ofNat 18 = 18 from rfl), q1, lt2q, h7]
    have hl95 : oX4_loop_95 rc0 FU (Int32.ofNat (d + 1)) (Int32.ofNat (a + 1)) (Int32.ofNat sg) 0 0 w6 = fX4_loop_120 rc0 (oX4_loop_95 rc0 (fo + xs.length)) (Int32.ofNat (d + 1)) (Int32.ofNat (a + 1)) (Int32.ofNat sg) (Int32.ofNat (([] : List Nat).headD 0)) (Int32.ofNat 0) w6 := by
      rw [hfo, ← Nat.add_assoc]
      show fX4_loop_95 rc0 (oX4_loop_95 rc0 (fo + xs.length)) _ _ _ _ _ w6 = _
      unfold fX4_loop_95
      rw [if_neg (by decide), if_pos rfl]
      rfl
    unfold fX4_loop
    rw [o1, lt2q, j1, lt2q, ltq, a_at j2.1.1, r1', bn2_so, ltq, k1, lt2q, l1, lt2q, show (50 : Int32) = Int32.ofNat 50 from rfl, n1, ltq, show (1 : Int32) = Int32.ofNat 1 from rfl, t1, lt2q, hl95, v1]
    unfold fX4_loop_140
    rw [show (19 : Int32) = Int32.ofNat 19 from rfl, n3, ltq, x1, lt2q, y1, bn_so, z1', bn2_so, c1, lt2q, d1, lt2q, ltq, bn2_so]
  · obtain ⟨b4, ⟨b5, ⟨b6, ⟨b7, ⟨b8, ⟨b9, ⟨b10, ⟨⟨g0, g0'⟩, g1, g1'⟩, g2⟩, g3, c1, ⟨c2, g4, g4'⟩, g5, g5'⟩, g6⟩, g7, g7'⟩, c3, g8, g8'⟩, g9, c4, g10, g11, g11'⟩, g12⟩ := hg
    rw [g2, g1'] at g3 g4
    rw [← g4'] at g4
    rw [g5'] at g3 g6
    rw [← g8'] at g8
    rw [g7, g6, ad1_iN, ← g0] at g8
    rw [g12]
    exact ⟨g1, g7', c1, b5, c4, g3, g4, g5, g8, g9, g10, g11, g11'⟩
  · simp
end ES
