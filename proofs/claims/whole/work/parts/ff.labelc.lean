/-! PASS 2, THE CLASS: LABELS, SCOPES, choices -/
section ES
variable {kd wr nm TK : Nat → Nat} {z : Nat} {fA fM : Wd} {SL : Nat → List Nat} {NS ns SZ lev cur m : Nat} {pn : Nat → Int32} {i i0 i1 i2 i3 t t1 t2 e e1 d n a a1 a2 a3 sg sg1 sg2 sz sz0 sz1 sz2 sz3 kp kp1 kp2 nsc nsc1 nsc2 : Nat} {stk stk1 stk2 : List Nat} {hid hid1 hid2 : Int32} {w w1 w2 w3 w4 u v : Wd} {L L1 L2 L3 : List (Nat × Int32)} {P P1 P2 P3 : Nat → Nat → Nat → Wd → Prop} {B B1 B2 B3 T T1 T2 : Nat} {C : Nat → Nat} {lu : Nat → Nat}
/-- LABELS: j of them, symbols i0 .. -/
def PLB (kp i0 j : Nat) (P : Nat → Nat → Nat → Wd → Prop) (b b' Z : Nat) (g : Wd) : Prop := (∀ i, i < j → gl g 41 (i0 + i + 1) = Int32.toInt64 (Int32.ofNat (b + i)) ∧ gl g 41 (b + i) = wdC 32 0 (Int32.ofNat kp)) ∧ P (b + j) b' Z g
theorem SSC.wk {r : Wd → Option (Int32 × Wd)} (h : SSC kd wr nm TK z fA SL NS ns SZ lev pn sg kp nsc nsc1 i0 i1 t e stk L P T r) (hP : ∀ b b' Z g, P b b' Z g → P1 b b' Z g) (hT : T ≤ T1) (hi : i2 ≤ i0 ∧ i1 ≤ i3 ∧ i3 ≤ ns := by omega) : SSC kd wr nm TK z fA SL NS ns SZ lev pn sg kp nsc nsc1 i2 i3 t e stk L P1 T1 r := fun w a sz hG ha => by
  obtain ⟨u, a', sz', u1, u2⟩ := h w a sz hG (by omega)
  exact ⟨u, a', sz', u1, u2.wk hP hT hi⟩
theorem st_labels {rc : TX4_block} {s j : Nat} (hSY : ∀ i, i < C 1 → SYM kd m C TK fA fM i) (hm : m < z) (hLB : LBS kd fM n s j i0) (hl : ¬ (kd (s + 2 * j) = 2 ∧ kd (s + 2 * j + 1) = 42)) (hj : i0 + j ≤ C 1) (hns : C 1 ≤ ns)
    (h : SSC kd wr nm TK z fA SL NS ns SZ lev pn sg kp nsc nsc1 (i0 + j) i1 (s + 2 * j) e stk L P T (fX4_statement_61 rc (Int32.ofNat d))) : SSC kd wr nm TK z fA SL NS ns SZ lev pn sg kp nsc nsc1 i0 i1 s e stk L (PLB kp i0 j P) (T + j) (fX4_statement rc (Int32.ofNat d)) := by
  have hlp : ∀ (r i x fo : Nat) (w : Wd) (a sz : Nat), i + r = j → x ≤ s + 2 * i → GTC kd wr nm TK z fA SL NS ns SZ lev pn (s + 2 * i) a sg sz kp nsc stk 0 w → a + (T + r) ≤ 36872 → ∃ u a' sz', oX4_statement_2 rc (fo + r + 1) (Int32.ofNat d) (Int32.ofNat x) w = some (0, u) ∧ ESC kd wr nm TK z fA SL NS ns SZ lev pn (i0 + i) i1 e a a' sg sz sz' kp nsc1 stk 0 w u L (PLB kp (i0 + i) r P) (T + r) := by
    intro r
    induction r with
    | zero =>
      intro i x fo w a sz hi hx hG ha
      have hf := hG.cfit
      have hi' : i = j := by omega
      subst hi'
      obtain ⟨u, a', sz', u1, u2⟩ := h w a sz hG (by omega)
      refine ⟨u, a', sz', ?_, u2.wk (fun b b' Z g hg => ⟨fun i hi => absurd hi (by omega), hg⟩) (by omega) (by have := u2.2.2.2.2.1; omega)⟩
      show fX4_statement_2 rc _ _ _ w = _
      unfold fX4_statement_2
      rw [if_neg (show ¬ ((8193 : Int32) ≤ Int32.ofNat x) from nle_iN (a := 8193) (by omega) (by omega))]
      have hk := hG.1.2.2.1 (s + 2 * i)
      have hk2 := hG.1.2.2.1 (s + 2 * i + 1)
      have hil : fX4_isLabel w = false := by
        unfold fX4_isLabel
        rw [a_kind hG.1, ltq]
        by_cases q : kd (s + 2 * i) = 2
        · rw [if_pos (show Int32.ofNat (kd (s + 2 * i)) = 2 by rw [q]; rfl), a_at hG.1, ltq, ad1_iN, c_kindOf hG.1 (by omega), ltq, if_neg (show ¬ (Int32.ofNat (kd (s + 2 * i + 1)) = 42) from of_ne (k := 42) (by omega) (by omega) (fun q2 => hl ⟨q, q2⟩))]
        · rw [if_neg (show ¬ (Int32.ofNat (kd (s + 2 * i)) = 2) from of_ne (k := 2) (by omega) (by omega) q)]
      rw [hil, ltq, if_neg (by decide)]
      exact u1
    | succ r ih =>
      intro i x fo w a sz hi hx hG ha
      have hf := hG.cfit
      obtain ⟨l1, l2, _, _, l5⟩ := hLB.2 i (by omega)
      obtain ⟨y1, y2, y3, y4, y5, _⟩ := hSY (i0 + i) (by omega)
      have hTK : TK (i0 + i) = s + 2 * i := by
        rw [l5] at y4
        exact ((eq_iN (by omega) (by omega)).mp y4).symm
      rw [hTK] at y5
      obtain ⟨n1, n2⟩ := EC.need hG.gc (k := 2) l1 (by omega)
      have E1 := ESC.ec (i := i0 + i) hG n2 (by omega)
      obtain ⟨c1, E2⟩ := ESC.cell (i := i0 + i) E1.1 (by omega)
      obtain ⟨n3, n4⟩ := EC.need E2.1.gc (k := 42) l2 (by omega)
      have E3 := ESC.ec (i := i0 + i + 1) E2.1 n4 (by omega)
      obtain ⟨v, v1, v2⟩ := EC.put2 (x := 32) (c := Int32.ofNat kp) E3.1.gc (by omega)
      have E4 := ESC.ec (i := i0 + i + 1) E3.1 v2 (by omega)
      obtain ⟨u, a', sz', u1, u2⟩ := ih (i + 1) (x + 1) fo v (a + 1) sz (by omega) (by omega) E4.1 (by omega)
      have h5 := u2.2.2.2.2.1
      refine ⟨u, a', sz', ?_, (((((E1.seq E2).seq E3).seq E4).seq u2).wk (fun b b' Z g hg => ?_) (by omega) (by have := u2.2.2.2.2.1; omega)).cL (by simp)⟩
      · show fX4_statement_2 rc (oX4_statement_2 rc (fo + r + 1)) _ _ w = _
        unfold fX4_statement_2
        have hil : fX4_isLabel w = true := by
          unfold fX4_isLabel
          rw [a_kind hG.1, ltq, l1, if_pos (show Int32.ofNat 2 = 2 from rfl), a_at hG.1, ltq, ad1_iN, c_kindOf hG.1 (by omega), ltq, l2, if_pos (show Int32.ofNat 42 = 42 from rfl)]
        have hdc : fX4_declared 4 0 w = (Int32.ofNat (i0 + i + 1), si w 4 9 (Int32.ofNat (s + 2 * i + 1))) := by
          unfold fX4_declared
          rw [a_at hG.1, ltq, show (2 : Int32) = Int32.ofNat 2 from rfl, n1, ltq, if_neg E1.1.2.1]
          unfold fX8_declaredAt
          rw [rgi_iN (by omega) (by omega), E1.1.2.2.2.2.2.2.1.1 25 _ (by omega), y5]
          rfl
        rw [if_neg (show ¬ ((8193 : Int32) ≤ Int32.ofNat x) from nle_iN (a := 8193) (by omega) (by omega)), hil, ltq, if_pos rfl, hdc, lt2q, c1, ltq, show (42 : Int32) = Int32.ofNat 42 from rfl, n3, ltq, E3.1.slot.2.2, ltq, v1, lt2q, ad1_iN, ltq]
        exact u1
      · obtain ⟨b4, ⟨b3, ⟨b2, ⟨b1, g1, g2⟩, g3⟩, g4⟩, g5⟩ := hg
        obtain ⟨g2, g2'⟩ := g2
        rw [g1] at g2 g2'
        rw [g2] at g3
        rw [g3] at g4
        rw [g4.2] at g5
        refine ⟨fun q hq => ?_, ?_⟩
        · cases q with
          | zero => exact ⟨g2', g4.1⟩
          | succ q =>
            have := g5.1 q (by omega)
            rw [show i0 + i + (q + 1) + 1 = i0 + (i + 1) + q + 1 by omega, show b + (q + 1) = b + 1 + q by omega]
            exact this
        · have := g5.2
          rw [show b + (r + 1) = b + 1 + r by omega]
          exact this
  intro w a sz hG ha
  obtain ⟨fo, hf⟩ := FU_ge (k := j + 1) (by omega)
  obtain ⟨u, a', sz', u1, u2⟩ := hlp j 0 0 fo w a sz (by omega) (by omega) hG ha
  refine ⟨u, a', sz', ?_, u2⟩
  unfold fX4_statement
  rw [hf, ← Nat.add_assoc]
  exact u1
/-- a STATEMENT in a SCOPE of its own -/
theorem s_scoped {rc : TX4_block} (h : SSC kd wr nm TK z fA SL NS ns SZ lev pn sg kp (nsc + 1) nsc1 i0 i1 t e (nsc :: stk) L P T (fun w => rc 5 (Int32.ofNat d) 0 0 w)) (hn : nsc < NS) (hi : i0 ≤ ns) : SSC kd wr nm TK z fA SL NS ns SZ lev pn sg kp nsc nsc1 i0 i1 t e stk L P T (fX4_scoped rc (Int32.ofNat d)) := by
  intro w a sz hG ha
  obtain ⟨w1, e1, E1⟩ := ESC.enter (i := i0) hG hn hi
  obtain ⟨w2, a', sz', u1, u2⟩ := h w1 a sz E1.1 ha
  have h5 := u2.2.2.2.2.1
  obtain ⟨w3, l1, E3⟩ := ESC.leave (i := i1) u2.1 (by omega)
  refine ⟨w3, a', sz', ?_, (((E1.seq u2).seq E3).wk (fun b b' Z g hg => ?_) (by omega)).cL (by simp)⟩
  · have u1' : rc 5 (Int32.ofNat d) 0 0 w1 = some (0, w2) := u1
    unfold fX4_scoped
    rw [e1, bn_so, u1', bn2_so, l1, bn_so]
  · obtain ⟨b2, ⟨b1, g1, g2⟩, g3⟩ := hg
    rw [g1] at g2
    rw [g3]
    exact g2
/-- a test -/
theorem c_test {rc1 : TX2_typed} {X1 : Int32} {s base ob : Nat} {P1 : Nat → Nat → Wd → Prop} (hk : kd s = 15) (hd : d < 40) (hk1 : kd e1 = 16)
    (h1 : SPE kd wr z fA lu lev pn (d + 1) (s + 1) e1 X1 L1 P1 B1 (fun w => rc1 0 (Int32.ofNat (d + 1)) 2 0 w))
    (hw : GC2 kd wr z fA lu lev pn s a base ob w) (hb : base ≤ 10 * d) (ho : ob ≤ 9 * d) (ha : a + (B1 + 1) ≤ 36872) :
    ∃ a1 w1 w2, fX2_test rc1 (Int32.ofNat d) w = some (Int32.ofNat a1, w2) ∧ EC kd wr z fA lu lev pn base ob (e1 + 1) a a1 w w1 L1 P1 B1 ∧ EC kd wr z fA lu lev pn base ob (e1 + 1) a1 (a1 + 1) w1 w2 [] (fun b b' g => gl g 41 b = wdC 34 0 0 ∧ b' = b + 1) 1 := by
  obtain ⟨o1, o2⟩ := EC.opn hw (d := d) (by omega) (by omega) hd
  obtain ⟨x1, a1, u1, u2⟩ := h1 _ a base ob o2.1 (by omega) (by omega) (by omega)
  have hb1 := u2.b
  obtain ⟨n1, n2⟩ := EC.need u2.1 hk1 (by omega)
  have E1 := o2.fl' (u2.seq n2)
  obtain ⟨w2, j1, j2⟩ := EC.put1 (x := 34) E1.1 (by omega)
  refine ⟨a1, _, w2, ?_, (E1.wk (fun b b' g ⟨b1, g1, g2⟩ => by rw [g2]; exact g1) (by omega)).cL (by simp), j2⟩
  have u1' : rc1 0 (Int32.ofNat (d + 1)) 2 0 (si w 4 9 (Int32.ofNat (s + 1))) = some (X1, x1) := u1
  unfold fX2_test
  rw [o1, lt2q, u1', bn2_so, ltq, show (16 : Int32) = Int32.ofNat 16 from rfl, n1, j1, lt2q]
/-- what's for true, what's for false -/
theorem ESC.two (J1 : ESC kd wr nm TK z fA SL NS ns SZ lev pn i0 i0 t a (a + 1) sg sz0 sz kp nsc stk hid w w1 [] (fun b b' _ g => gl g 41 b = wdC 34 0 0 ∧ b' = b + 1) 1) (E2 : ESC kd wr nm TK z fA SL NS ns SZ lev pn i0 i1 t1 (a + 1) a2 sg sz sz1 kp nsc1 stk hid w1 w2 L2 P2 B2) (J2 : ESC kd wr nm TK z fA SL NS ns SZ lev pn i1 i1 t2 a2 (a2 + 1) sg sz1 sz1 kp nsc1 stk hid w2 w3 [] (fun b b' _ g => gl g 41 b = wdC 33 0 0 ∧ b' = b + 1) 1) (ha : a2 < 36872) :
    ∃ y w4, fX0_patch (Int32.ofNat a) w3 = (y, w4) ∧ GTC kd wr nm TK z fA SL NS ns SZ lev pn t2 (a2 + 1) sg sz1 kp nsc1 stk hid w4 ∧ ∀ {t3 a3 sg3 sz3 kp3 nsc3 i3 stk3 hid3 w5 L3 P3 B3}, ESC kd wr nm TK z fA SL NS ns SZ lev pn i1 i3 t3 (a2 + 1) a3 sg3 sz1 sz3 kp3 nsc3 stk3 hid3 w4 w5 L3 P3 B3 → ∃ y' w6, fX0_patch (Int32.ofNat a2) w5 = (y', w6) ∧ ESC kd wr nm TK z fA SL NS ns SZ lev pn i0 i3 t3 a a3 sg3 sz0 sz3 kp3 nsc3 stk3 hid3 w w6 (L2 ++ L3) (fun b b' Z g => ∃ b2, gl g 41 b = jwC 34 (b2 + 1) ∧ P2 (b + 1) b2 Z g ∧ gl g 41 b2 = jwC 33 b' ∧ P3 (b2 + 1) b' Z g) (B2 + B3 + 2) := by
  obtain ⟨j1, j2, j3, j4, j5, j6⟩ := J1
  obtain ⟨f1, f2, f3, f4, f5, f6⟩ := E2
  obtain ⟨k1, k2, k3, k4, k5, k6⟩ := J2
  have hw : gl w3 41 a = wdC 34 0 0 := by
    rw [(k4 41 a (by unfold FS2 F2; omega)).2, (f4 41 a (by unfold FS2 F2; omega)).2]
    exact (j6 w1 sz (fun _ _ => rfl) (Nat.le_refl _)).1
  obtain ⟨y, p1⟩ := GTC.patch k1 (p := a) (by omega) hw (by decide)
  have hO : OFF (fun k j => k = 41 ∧ j = a) (sl w3 41 a (jwC 34 (a2 + 1))) w3 := OFF.sl ⟨rfl, rfl⟩
  refine ⟨y, _, p1, k1.ovr, fun {t3 a3 sg3 sz3 kp3 nsc3 i3 stk3 hid3 w5 L3 P3 B3} E3 => ?_⟩
  obtain ⟨m1, m2, m3, m4, m5, m6⟩ := E3
  have hw2 : gl w5 41 a2 = wdC 33 0 0 := by
    rw [(m4 41 a2 (by unfold FS2 F2; omega)).2, (hO 41 a2 (by omega)).2]
    exact (k6 w3 sz1 (fun _ _ => rfl) (Nat.le_refl _)).1
  obtain ⟨y', q1⟩ := GTC.patch m1 (p := a2) (by omega) hw2 (by decide)
  have hO2 : OFF (fun k j => k = 41 ∧ j = a2) (sl w5 41 a2 (jwC 33 a3)) w5 := OFF.sl ⟨rfl, rfl⟩
  refine ⟨y', _, q1, m1.ovr, fun x hx => ?_, ?_, ?_, by omega, fun g Z hg hZ => ⟨a2, ?_, ?_, ?_, ?_⟩⟩
  · exact (List.mem_append.mp hx).elim (f2 x) (m2 x)
  · have h1 : FLA (sl w5 41 a2 (jwC 33 a3)) = FLA w5 := rfl
    have h2 : FLA (sl w3 41 a (jwC 34 (a2 + 1))) = FLA w3 := rfl
    rw [h1, m3, h2, k3, f3, j3, FNL_app]
    rfl
  · exact OFF.tr (hO2.mono fun k j hk => by unfold FS2 F2; omega) (OFF.tr (m4.mono fun k j hk => hk.le (by omega) (by omega) (Nat.le_refl _)) (OFF.tr (hO.mono fun k j hk => by unfold FS2 F2; omega) (OFF.tr (k4.mono fun k j hk => hk.le (by omega) (by omega) (by omega)) (OFF.tr (f4.mono fun k j hk => hk.le (by omega) (Nat.le_refl _) (by omega)) (j4.mono fun k j hk => hk.le (Nat.le_refl _) (Nat.le_refl _) (by omega))))))
  · rw [hg a (by omega), (hO2 41 a (by omega)).2, (m4 41 a (by unfold FS2 F2; omega)).2, gl_sl0]
  · refine f6 g Z (fun j hj => ?_) (by omega)
    rw [hg j (by omega), (hO2 41 j (by omega)).2, (m4 41 j (by unfold FS2 F2; omega)).2, (hO 41 j (by omega)).2, (k4 41 j (by unfold FS2 F2; omega)).2]
  · rw [hg a2 (by omega), gl_sl0]
  · refine m6 g Z (fun j hj => ?_) hZ
    rw [hg j (by omega), (hO2 41 j (by omega)).2]
/-- a choice -/
def PI1c (PE : Nat → Nat → Wd → Prop) (P : Nat → Nat → Nat → Wd → Prop) (b b' Z : Nat) (g : Wd) : Prop := gl g 41 b = wdC 40 0 0 ∧ ∃ b1, PE (b + 1) b1 g ∧ gl g 41 b1 = jwC 34 b' ∧ P (b1 + 1) b' Z g
def PI2c (PE : Nat → Nat → Wd → Prop) (P1 P2 : Nat → Nat → Nat → Wd → Prop) (b b' Z : Nat) (g : Wd) : Prop := gl g 41 b = wdC 40 0 0 ∧ ∃ b1, PE (b + 1) b1 g ∧ ∃ b2, gl g 41 b1 = jwC 34 (b2 + 1) ∧ P1 (b1 + 1) b2 Z g ∧ gl g 41 b2 = jwC 33 b' ∧ P2 (b2 + 1) b' Z g
theorem s_choice1 {rc rc0 : TX4_block} {PE : Nat → Nat → Wd → Prop} {X1 : Int32} (hk : kd t = 15) (hd : d < 40) (hk1 : kd e1 = 16) (hi : i0 ≤ ns) (h6 : ∀ w, rc 6 (Int32.ofNat d) 0 0 w = fX4_choice rc0 (Int32.ofNat d) w)
    (h1 : SPE kd wr z fA (luN nm TK SL stk) lev pn (d + 1) (t + 1) e1 X1 L1 PE B1 (fun w => RX2_typed 899 0 (Int32.ofNat (d + 1)) 2 0 w))
    (h2 : SSC kd wr nm TK z fA SL NS ns SZ lev pn sg kp nsc nsc1 i0 i1 (e1 + 1) e stk L2 P2 B2 (fun w => rc0 4 (Int32.ofNat (d + 1)) 0 0 w)) (h17 : kd e ≠ 17) : SSC kd wr nm TK z fA SL NS ns SZ lev pn sg kp nsc nsc1 i0 i1 t e stk (L1 ++ L2) (PI1c PE P2) (B1 + B2 + 2) (fX4_statement_61 rc (Int32.ofNat d)) := by
  intro w a sz hG ha
  obtain ⟨w0, p1, p2⟩ := EC.put1 (x := 40) hG.gc (by omega)
  obtain ⟨a1, w1, w2, t1, t2, t3⟩ := c_test hk hd hk1 h1 p2.1 (by omega) (by omega) (by omega)
  have hb1 := t2.2.2.2.2.1
  have E1 := ESC.ec (i := i0) hG (p2.seq t2) hi
  have J1 := ESC.ec (i := i0) E1.1 t3 hi
  obtain ⟨w3, a2, sz1, s1, s2⟩ := h2 w2 (a1 + 1) sz J1.1 (by omega)
  have hb2 := s2.2.2.2.2.1
  obtain ⟨y, w4, q1, q2⟩ := ESC.jmp J1 s2 (by omega) (by decide)
  refine ⟨w4, a2, sz1, ?_, ((E1.seq q2).wk (fun b b' Z g hg => ?_) (by omega)).cL (by simp)⟩
  · have t1' : RX2_typed 900 1 (Int32.ofNat d) 0 0 w0 = some (Int32.ofNat a1, w2) := t1
    have s1' : rc0 4 (Int32.ofNat (d + 1)) 0 0 w2 = some (0, w3) := s1
    have hkl := s2.1.1.2.2.1 e
    unfold fX4_statement_61
    rw [ltq, a_kind hG.1, hk, if_neg (by decide), if_neg (by decide), if_neg (by decide), if_pos (show Int32.ofNat 15 = 15 from rfl), p1, lt2q, h6]
    unfold fX4_choice
    have ht : fX9_take 17 w3 = (false, w3) := by
      unfold fX9_take
      rw [a_kind s2.1.1, ltq, if_neg (show ¬ (Int32.ofNat (kd e) = 17) from of_ne (k := 17) (by omega) (by omega) h17)]
    rw [t1', bn2_so, ad1_iN, s1', bn2_so, ht, lt2q, if_neg (show ¬ (false = true) from by decide), q1, lt2q, bn2_so]
  · obtain ⟨b1, ⟨b0, g1, g2⟩, g3⟩ := hg
    rw [g1.2] at g2
    exact ⟨g1.1, b1, g2, g3⟩
theorem s_choice2 {rc rc0 : TX4_block} {PE : Nat → Nat → Wd → Prop} {X1 : Int32} {e2 : Nat} (hk : kd t = 15) (hd : d < 40) (hk1 : kd e1 = 16) (hk2 : kd e2 = 17) (hi : i0 ≤ ns) (h6 : ∀ w, rc 6 (Int32.ofNat d) 0 0 w = fX4_choice rc0 (Int32.ofNat d) w)
    (h1 : SPE kd wr z fA (luN nm TK SL stk) lev pn (d + 1) (t + 1) e1 X1 L1 PE B1 (fun w => RX2_typed 899 0 (Int32.ofNat (d + 1)) 2 0 w))
    (h2 : SSC kd wr nm TK z fA SL NS ns SZ lev pn sg kp nsc nsc1 i0 i1 (e1 + 1) e2 stk L2 P2 B2 (fun w => rc0 4 (Int32.ofNat (d + 1)) 0 0 w)) (h3 : SSC kd wr nm TK z fA SL NS ns SZ lev pn sg kp nsc1 nsc2 i1 i2 (e2 + 1) e stk L3 P3 B3 (fun w => rc0 4 (Int32.ofNat (d + 1)) 0 0 w)) : SSC kd wr nm TK z fA SL NS ns SZ lev pn sg kp nsc nsc2 i0 i2 t e stk (L1 ++ L2 ++ L3) (PI2c PE P2 P3) (B1 + B2 + B3 + 3) (fX4_statement_61 rc (Int32.ofNat d)) := by
  intro w a sz hG ha
  obtain ⟨w0, p1, p2⟩ := EC.put1 (x := 40) hG.gc (by omega)
  obtain ⟨a1, w1, w2, t1, t2, t3⟩ := c_test hk hd hk1 h1 p2.1 (by omega) (by omega) (by omega)
  have hb1 := t2.2.2.2.2.1
  have E1 := ESC.ec (i := i0) hG (p2.seq t2) hi
  have J1 := ESC.ec (i := i0) E1.1 t3 hi
  obtain ⟨w3, a2, sz1, s1, s2⟩ := h2 w2 (a1 + 1) sz J1.1 (by omega)
  have hb2 := s2.2.2.2.2.1
  obtain ⟨n1, n2⟩ := EC.take s2.1.gc (k := 17) (by omega) (by rw [hk2]; rfl)
  have E2 := s2.seq (ESC.ec (i := i1) s2.1 n2 (by omega))
  obtain ⟨w4, j1, j2⟩ := EC.put1 (x := 33) E2.1.gc (by omega)
  have J2 := ESC.ec (i := i1) E2.1 j2 (by omega)
  obtain ⟨y, w5, q1, q2, q3⟩ := ESC.two J1 E2 J2 (by omega)
  obtain ⟨w6, a3, sz2, r1, r2⟩ := h3 w5 (a2 + 1) sz1 q2 (by omega)
  obtain ⟨y', w7, o1, o2⟩ := q3 r2
  have ho5 := o2.2.2.2.2.1
  refine ⟨w7, a3, sz2, ?_, ((E1.seq o2).wk (fun b b' Z g hg => ?_) (by omega)).cL (by simp)⟩
  · have t1' : RX2_typed 900 1 (Int32.ofNat d) 0 0 w0 = some (Int32.ofNat a1, w2) := t1
    have s1' : rc0 4 (Int32.ofNat (d + 1)) 0 0 w2 = some (0, w3) := s1
    have r1' : rc0 4 (Int32.ofNat (d + 1)) 0 0 w5 = some (0, w6) := r1
    unfold fX4_statement_61
    rw [ltq, a_kind hG.1, hk, if_neg (by decide), if_neg (by decide), if_neg (by decide), if_pos (show Int32.ofNat 15 = 15 from rfl), p1, lt2q, h6]
    unfold fX4_choice
    rw [t1', bn2_so, ad1_iN, s1', bn2_so, n1, lt2q, if_pos rfl, j1, lt2q, q1, lt2q, r1', bn2_so, o1, lt2q, bn2_so]
  · obtain ⟨b1, ⟨b0, g1, g2⟩, b2, g3, ⟨b3, g4, g5⟩, g6, g7⟩ := hg
    rw [g1.2] at g2
    rw [g5] at g3 g6 g7
    exact ⟨g1.1, b1, g2, b3, g3, g4, g6, g7⟩
/-- nothing -/
theorem s_none {rc : TX4_block} (hk : ¬ (kd t = 2 ∨ kd t = 4 ∨ kd t = 14 ∨ kd t = 15 ∨ kd t = 18 ∨ kd t = 32)) (hi : i ≤ ns) : SSC kd wr nm TK z fA SL NS ns SZ lev pn sg kp nsc nsc i i t t stk [] (fun b b' _ _ => b' = b) 0 (fX4_statement_61 rc (Int32.ofNat d)) := by
  intro w a sz hG ha
  refine ⟨w, a, sz, ?_, ESC.no hG hi⟩
  have h3 := hG.1.2.2.1 t
  have hc : ∀ k : Nat, k ≤ 50 → kd t ≠ k → ¬ (Int32.ofNat (kd t) = Int32.ofNat k) := fun k hk hne e => hne ((eq_iN (by omega) (by omega)).mp e)
  unfold fX4_statement_61
  rw [ltq, a_kind hG.1, if_neg (show ¬ (Int32.ofNat (kd t) = 2) from hc 2 (by omega) (by omega)), if_neg (show ¬ (Int32.ofNat (kd t) = 4) from hc 4 (by omega) (by omega)), if_neg (show ¬ (Int32.ofNat (kd t) = 14) from hc 14 (by omega) (by omega)), if_neg (show ¬ (Int32.ofNat (kd t) = 15) from hc 15 (by omega) (by omega)), if_neg (show ¬ (Int32.ofNat (kd t) = 18) from hc 18 (by omega) (by omega)), if_neg (show ¬ (Int32.ofNat (kd t) = 32) from hc 32 (by omega) (by omega))]
end ES
