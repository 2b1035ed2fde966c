/-! PASS 2, THE CLASS: simple STATEMENTS -/
/-- what a STATEMENT's part comes to: slots sg kp stay, SCOPES nsc .. nsc' - 1 and symbols i0 .. i1 - 1 are its own -/
def SSC (kd wr nm TK : Nat → Nat) (z : Nat) (fA : Wd) (SL : Nat → List Nat) (NS ns SZ lev : Nat) (pn : Nat → Int32) (sg kp nsc nsc' i0 i1 t e : Nat) (stk : List Nat) (L : List (Nat × Int32)) (P : Nat → Nat → Nat → Wd → Prop) (T : Nat) (r : Wd → Option (Int32 × Wd)) : Prop :=
  ∀ w a sz, GTC kd wr nm TK z fA SL NS ns SZ lev pn t a sg sz kp nsc stk 0 w → a + T ≤ 36872 → ∃ u a' sz', r w = some (0, u) ∧ ESC kd wr nm TK z fA SL NS ns SZ lev pn i0 i1 e a a' sg sz sz' kp nsc' stk 0 w u L P T
/-- an EXPR's codes for a goto, a print .. behind a word for STEP -/
def PGC (fM fA : Wd) (lu : Nat → Nat) (cur lev K x : Nat) (b b' _Z : Nat) (g : Wd) : Prop := gl g 41 b = wdC 40 0 0 ∧ ∃ b1, (FLX fM lu cur K 2 x 0 = [] → CDC fM fA lu lev K 2 x 0 (b + 1) b1 g) ∧ gl g 41 b1 = wdC 50 0 0 ∧ b' = b1 + 1
def PPC (fM fA : Wd) (lu : Nat → Nat) (cur lev K x : Nat) (b b' _Z : Nat) (g : Wd) : Prop := gl g 41 b = wdC 40 0 0 ∧ ∃ b1, (FLX fM lu cur K 0 x 0 = [] → CDC fM fA lu lev K 0 x 0 (b + 1) b1 g) ∧ gl g 41 b1 = wdC 28 0 0 ∧ b' = b1 + 1
/-- a call without ACTUALS, one with -/
def PC0 (fA : Wd) (lev l : Nat) (b b' _Z : Nat) (g : Wd) : Prop := gl g 41 b = wdC 40 0 0 ∧ gl g 41 (b + 1) = wdC 41 0 0 ∧ puC fA lev l (b + 2) (b + 3) g ∧ gl g 41 (b + 3) = wdC 42 0 0 ∧ gl g 41 (b + 4) = wdC 27 0 1 ∧ b' = b + 5
def PC1 (fM fA : Wd) (lu : Nat → Nat) (cur lev K x : Nat) (b b' _Z : Nat) (g : Wd) : Prop := gl g 41 b = wdC 40 0 0 ∧ ∃ b1, (FLX fM lu cur K 0 x 1 = [] → CDC fM fA lu lev K 0 x 0 (b + 1) b1 g) ∧ gl g 41 b1 = wdC 27 0 1 ∧ b' = b1 + 1
section ES
variable {kd wr nm TK : Nat → Nat} {z : Nat} {fA fM : Wd} {SL : Nat → List Nat} {NS ns SZ lev cur m : Nat} {pn : Nat → Int32} {i i0 i1 i2 i3 t t1 t2 e e1 d n a a1 a2 a3 sg sg1 sg2 sz sz1 sz2 kp kp1 kp2 nsc nsc1 nsc2 : Nat} {stk stk1 stk2 : List Nat} {hid hid1 hid2 : Int32} {w w1 w2 w3 w4 u v : Wd} {L L1 L2 L3 : List (Nat × Int32)} {P P1 P2 P3 : Nat → Nat → Nat → Wd → Prop} {B B1 B2 B3 : Nat} {C : Nat → Nat} {lu : Nat → Nat}
theorem xpr_alc (hc : CTX kd wr m z C TK fA fM lu lev cur pn) {sc : Int32} {lo cn : Nat} (h : XPR kd sc lo n d t e cn fA fM) (hn : n < 24000) (he : e ≤ m) (hd : d ≤ 40) : t < e ∧ ALC kd wr m z fA fM lu lev cur pn d n t e cn 295 := pwr_allC hc 41 lo n d t e cn h.2 hn he hd h.1
theorem xam_aic (hc : CTX kd wr m z C TK fA fM lu lev cur pn) {sc : Int32} {lo : Nat} (h : XAM kd sc lo n d t e fA fM) (hn : n < 24000) (he : e ≤ m) (hd : d ≤ 40) : AIC kd wr m z fA fM lu lev cur pn d n t e 295 := pam_allC hc 41 lo n d t e h.2 hn he hd h.1
/-- a STATEMENT that's EXPRS only -/
theorem SSC.ec {P : Nat → Nat → Wd → Prop} {T : Nat} {r : Wd → Option (Int32 × Wd)} (h : SPE kd wr z fA (luN nm TK SL stk) lev pn d t e 0 L P T r) (hi : i ≤ ns) : SSC kd wr nm TK z fA SL NS ns SZ lev pn sg kp nsc nsc i i t e stk L (fun b b' _ g => P b b' g) T r := by
  intro w a sz hG ha
  obtain ⟨u, a', u1, u2⟩ := h w a 0 0 hG.gc (by omega) (by omega) ha
  exact ⟨u, a', sz, u1, ESC.ec hG u2 hi⟩
/-- kinds of STATEMENTS -/
theorem st_61 {rc : TX4_block} {r : Wd → Option (Int32 × Wd)} {k : Nat} (hk : kd t = k) (hr : ∀ w, (∃ x w2, fX0_put__ 40 w = (x, w2)) → fX9_kind w = Int32.ofNat k → fX4_statement_61 rc (Int32.ofNat d) w = r (fX0_put__ 40 w).2) {P : Nat → Nat → Wd → Prop} {T e : Nat} (h : SPE kd wr z fA lu lev pn d t e 0 L P T r) (hT : T + 1 ≤ B) :
    SPE kd wr z fA lu lev pn d t e 0 L (fun b b' g => gl g 41 b = wdC 40 0 0 ∧ P (b + 1) b' g) B (fX4_statement_61 rc (Int32.ofNat d)) := by
  intro w a base ob hw hb ho ha
  obtain ⟨w1, p1, p2⟩ := EC.put1 (x := 40) hw (by omega)
  obtain ⟨u, a', u1, u2⟩ := h w1 (a + 1) base ob p2.1 hb ho (by omega)
  refine ⟨u, a', ?_, ((p2.seq u2).wk (fun b b' g ⟨b1, g1, g2⟩ => by rw [g1.2] at g2; exact ⟨g1.1, g2⟩) (by omega)).cL rfl⟩
  rw [hr w ⟨_, _, p1⟩ (by rw [a_kind hw.1, hk]), p1]
  exact u1
theorem s_goto {rc : TX4_block} {K x : Nat} (hwt : wr t + 1 ≤ wr (t + 1)) (h14 : kd t = 14) (hA : AIC kd wr m z fA fM lu lev cur pn d x (t + 1) e 295) (hK : 4 * x + 3 ≤ K) :
    SPE kd wr z fA lu lev pn d t e 0 (FLX fM lu cur K 2 x 0) (fun b b' g => PGC fM fA lu cur lev K x b b' 0 g) (4 * (wr e - wr t)) (fX4_statement_61 rc (Int32.ofNat d)) := by
  obtain ⟨⟨_, h2, _, h4, _⟩, h5⟩ := hA
  have hS : SPE kd wr z fA lu lev pn d t e 0 (FLX fM lu cur K 2 x 0) (fun b b' g => ∃ b1, (FLX fM lu cur K 2 x 0 = [] → CDC fM fA lu lev K 2 x 0 b b1 g) ∧ gl g 41 b1 = wdC 50 0 0 ∧ b' = b1 + 1) (4 * (wr e - wr (t + 1))) (fun w => lt (fX9_need 14 w) fun w14 => bn2 (RX2_typed 900 11 (Int32.ofNat d) 1 0 w14) fun _ w16 => lt2 (fX0_put__ 50 w16) fun x17 w18 => some (0, w18)) := by
    intro w a base ob hw hb ho ha
    obtain ⟨n1, n2⟩ := EC.need hw (k := 14) h14 (by omega)
    obtain ⟨u, a1, u1, u2⟩ := h5 K 900 hK (by omega) _ a base ob n2.1 hb ho (by omega)
    have hb1 := u2.2.2.2.2.1
    obtain ⟨v, v1, v2⟩ := EC.put1 (x := 50) u2.1 (by omega)
    refine ⟨v, a1 + 1, ?_, (((n2.seq u2).seq v2).wk (fun b b' g hg => ?_) (by omega)).cL (by simp)⟩
    · have u1' : RX2_typed 900 11 (Int32.ofNat d) 1 0 (si w 4 9 (Int32.ofNat (t + 1))) = some (0, u) := u1
      show (lt (fX9_need (Int32.ofNat 14) w) _) = _
      rw [n1, ltq, u1', bn2_so, v1, lt2q]
    · obtain ⟨b1, ⟨b2, g1, g2⟩, g3, g4⟩ := hg
      rw [g1] at g2
      exact ⟨b1, g2, g3, g4⟩
  refine (st_61 h14 (fun w hw hk => ?_) hS (by omega)).wk (fun b b' g hg => hg) (Nat.le_refl _)
  obtain ⟨x, w2, p⟩ := hw
  unfold fX4_statement_61
  rw [ltq, hk, if_neg (by decide), if_neg (by decide), if_pos (show Int32.ofNat 14 = 14 from rfl), p, lt2q]
theorem s_print {rc : TX4_block} {K x cn : Nat} (hwt : wr t + 1 ≤ wr (t + 1)) (hwt1 : wr (t + 1) + 1 ≤ wr (t + 2)) (hwe : wr e + 1 ≤ wr (e + 1)) (h32 : kd t = 32) (h43 : kd (t + 1) = 43) (h44 : kd e = 44) (hd : d < 40) (hA : ALC kd wr m z fA fM lu lev cur pn (d + 1) x (t + 2) e cn 295) (hK : 4 * x + 1 ≤ K) :
    SPE kd wr z fA lu lev pn d t (e + 1) 0 (FLX fM lu cur K 0 x 0) (fun b b' g => PPC fM fA lu cur lev K x b b' 0 g) (4 * (wr (e + 1) - wr t)) (fX4_statement_61 rc (Int32.ofNat d)) := by
  have h4 := hA.1.2.2.1.2.2.1
  have hS : SPE kd wr z fA lu lev pn d t (e + 1) 0 (FLX fM lu cur K 0 x 0) (fun b b' g => ∃ b1, (FLX fM lu cur K 0 x 0 = [] → CDC fM fA lu lev K 0 x 0 b b1 g) ∧ gl g 41 b1 = wdC 28 0 0 ∧ b' = b1 + 1) (4 * (wr e - wr (t + 2))) (fun w => bn (fX4_print (Int32.ofNat d) w) fun w32 => some (0, w32)) := by
    intro w a base ob hw hb ho ha
    obtain ⟨n1, n2⟩ := EC.need hw (k := 32) h32 (by omega)
    obtain ⟨o1, o2⟩ := EC.opn n2.1 (d := d) (by omega) (by omega) hd
    obtain ⟨u, a1, u1, u2⟩ := hA.2.1 K 900 hK (by omega) _ a base ob o2.1 (by omega) (by omega) (by omega)
    have hb1 := u2.2.2.2.2.1
    obtain ⟨n3, n4⟩ := EC.need u2.1 (k := 44) h44 (by omega)
    obtain ⟨v, v1, v2⟩ := EC.put1 (x := 28) n4.1 (by omega)
    refine ⟨v, a1 + 1, ?_, ((((n2.seq o2).seq u2).seq (n4.seq v2)).wk (fun b b' g hg => ?_) (by omega)).cL (by simp)⟩
    · have u1' : RX2_typed 900 2 (Int32.ofNat (d + 1)) 0 0 (si (si w 4 9 (Int32.ofNat (t + 1))) 4 9 (Int32.ofNat (t + 1 + 1))) = some (TYX fM lu K x, u) := u1
      show (bn (fX4_print (Int32.ofNat d) w) _) = _
      unfold fX4_print
      rw [show (32 : Int32) = Int32.ofNat 32 from rfl, n1, ltq, a_kind n2.1.1, h43, ltq, if_pos (show Int32.ofNat 43 = 43 from rfl), o1, lt2q, u1', bn2_so, show (44 : Int32) = Int32.ofNat 44 from rfl, n3, ltq, v1, lt2q, bn_so]
    · obtain ⟨b1, ⟨b2, ⟨b3, g1, g2⟩, g3⟩, b4, g4, g5⟩ := hg
      rw [g2, g1] at g3
      rw [g4] at g5
      exact ⟨b1, g3, g5⟩
  refine (st_61 h32 (fun w hw hk => ?_) hS (by omega)).wk (fun b b' g hg => hg) (Nat.le_refl _)
  obtain ⟨x, w2, p⟩ := hw
  unfold fX4_statement_61
  rw [ltq, hk, if_neg (by decide), if_neg (by decide), if_neg (by decide), if_neg (by decide), if_neg (by decide), if_pos (show Int32.ofNat 32 = 32 from rfl), p, lt2q]
theorem c_kindOf {fa : Int32} {j : Nat} (hh : CT kd wr false z w t fa) (hj : j ≤ 8193) : fX9_kindOf (Int32.ofNat j) w = Int32.ofNat (kd j) := by
  have hz := hh.2.1
  unfold fX9_kindOf
  by_cases q : j < z
  · rw [hh.2.2.2.2.1, if_neg (nle_iN q (by omega)), rgi_iN (by omega) (by omega), ltq]
    exact (hh.2.2.2.2.2.1 _ q).1
  · rw [hh.2.2.2.2.1, if_pos (yle_iN (by omega) (by omega)), hh.2.2.2.1 j (by omega)]
    rfl
/-- a call as a STATEMENT: up to where its ACTUALS begin -/
theorem s_named (h2 : kd t = 2) (h50 : kd (t + 1) ≠ 50) (h45 : kd (t + 1) ≠ 45) {base ob : Nat} (hw : GC2 kd wr z fA lu lev pn t a base ob w) :
    ∃ u, fX4_named (Int32.ofNat d) w = fX4_named_83 (Int32.ofNat d) (Int32.ofNat t) (Int32.ofNat (lu t)) u ∧ EC kd wr z fA lu lev pn base ob (t + 1) a a w u (notD (lu t) t ++ srE fA 3 (lu t) t) (fun b b' _ => b' = b) 0 := by
  have hz := hw.a_lt
  obtain ⟨hl, u, f1, f2⟩ := c_find (tk := t) hw h2
  obtain ⟨n1, n2⟩ := EC.need f2.1 (k := 2) h2 (by omega)
  have E1 := (f2.seq n2).wk (P1 := fun b b' _ => b' = b) (fun b b' g ⟨b1, g1, g2⟩ => by rw [g2, g1]) (Nat.le_refl _)
  obtain ⟨s1, s2⟩ := c_isSort n2.1 hl (x := 3)
  have hko : fX9_kindOf (Int32.ofNat t + 1) w = Int32.ofNat (kd (t + 1)) := by
    rw [ad1_iN]
    exact c_kindOf hw.1 (by omega)
  have hkl : kd (t + 1) ≤ 50 := hw.1.2.2.1 (t + 1)
  have hst : fX4_named (Int32.ofNat d) w = if fX1_isSort (Int32.ofNat (lu t)) 3 (si u 4 9 (Int32.ofNat (t + 1))) = true then fX4_named_83 (Int32.ofNat d) (Int32.ofNat t) (Int32.ofNat (lu t)) (si u 4 9 (Int32.ofNat (t + 1))) else fX4_named_83 (Int32.ofNat d) (Int32.ofNat t) (Int32.ofNat (lu t)) (fX1_wrong (Int32.ofNat t) 4 (si u 4 9 (Int32.ofNat (t + 1)))) := by
    unfold fX4_named
    rw [a_at hw.1, ltq, hko, ltq, if_neg (show ¬ (Int32.ofNat (kd (t + 1)) = 50) from of_ne (k := 50) (by omega) (by omega) h50), if_neg (show ¬ (Int32.ofNat (kd (t + 1)) = 45) from of_ne (k := 45) (by omega) (by omega) h45), ltq, f1, lt2q, show (2 : Int32) = Int32.ofNat 2 from rfl, n1, ltq, ltq]
    by_cases q : fX1_isSort (Int32.ofNat (lu t)) 3 (si u 4 9 (Int32.ofNat (t + 1))) = true
    · rw [if_pos q, if_pos q]
    · rw [if_neg q, if_neg q, ltq]
  unfold srE
  by_cases q : gi fA 14 (lu t) = 3 ∨ gi fA 14 (lu t) = 0
  · refine ⟨_, by rw [hst, if_pos (s1 q)], ?_⟩
    rw [if_pos q]
    exact E1
  · obtain ⟨e1, e2⟩ := EC.note n2.1 (s := t) (n := 4) (by omega) (by decide)
    refine ⟨_, by rw [hst, s2 q, if_neg (by decide), e1], ?_⟩
    rw [if_neg q]
    exact ((E1.seq e2).wk (fun b b' g ⟨b1, g1, g2⟩ => by rw [g2, g1]) (Nat.le_refl _)).cL (by simp)
theorem s_call0 {rc : TX4_block} (hwt : wr t + 1 ≤ wr (t + 1)) (h2 : kd t = 2) (h50 : kd (t + 1) ≠ 50) (h45 : kd (t + 1) ≠ 45) (h43 : kd (t + 1) ≠ 43) :
    SPE kd wr z fA lu lev pn d t (t + 1) 0 (notD (lu t) t ++ srE fA 3 (lu t) t ++ nmC fA (lu t) t 0) (fun b b' g => PC0 fA lev (lu t) b b' 0 g) (4 * (wr (t + 1) - wr t) + 1) (fX4_statement_61 rc (Int32.ofNat d)) := by
  have hS : SPE kd wr z fA lu lev pn d t (t + 1) 0 (notD (lu t) t ++ srE fA 3 (lu t) t ++ nmC fA (lu t) t 0) (fun b b' g => gl g 41 b = wdC 41 0 0 ∧ puC fA lev (lu t) (b + 1) (b + 2) g ∧ gl g 41 (b + 2) = wdC 42 0 0 ∧ gl g 41 (b + 3) = wdC 27 0 1 ∧ b' = b + 4) 4 (fun w => bn (fX4_named (Int32.ofNat d) w) fun w5 => some (0, w5)) := by
    intro w a base ob hw hb ho ha
    have hz := hw.a_lt
    obtain ⟨u, s1, s2⟩ := s_named (d := d) h2 h50 h45 hw
    obtain ⟨v, v1, v2⟩ := c_call0 (rc := RX2_typed 899) (d := d) s2.1 h43 (c_find hw h2).1 (t := t) (by omega) (by omega)
    obtain ⟨v3, p1, p2⟩ := EC.put2 (x := 27) (c := 1) v2.1 (by omega)
    refine ⟨v3, a + 4, ?_, (((s2.seq v2).seq p2).wk (fun b b' g hg => ?_) (by omega)).cL (by simp)⟩
    · have v1' : RX2_typed 900 8 (Int32.ofNat d) (Int32.ofNat (lu t)) (Int32.ofNat t) u = some (0, v) := v1
      show (bn (fX4_named (Int32.ofNat d) w) _) = _
      rw [s1]
      unfold fX4_named_83
      rw [v1', bn2_so, p1, lt2q, bn_so]
    · obtain ⟨b1, ⟨b2, g1, g2, g3, g4, g5⟩, g6, g7⟩ := hg
      rw [g1] at g2 g3 g4 g5
      rw [g5] at g6 g7
      exact ⟨g2, g3, g4, g6, g7⟩
  refine (st_61 h2 (fun w hw hk => ?_) hS (by omega)).wk (fun b b' g hg => ⟨hg.1, hg.2.1, hg.2.2.1, hg.2.2.2.1, hg.2.2.2.2.1, hg.2.2.2.2.2⟩) (Nat.le_refl _)
  obtain ⟨x, w2, p⟩ := hw
  unfold fX4_statement_61
  rw [ltq, hk, if_pos (show Int32.ofNat 2 = 2 from rfl), p, lt2q]
theorem s_call1 {rc : TX4_block} {W : PWT} {K bnd lo : Nat} {xs : List Nat} (hS : SYT kd m C TK lu fA fM) (hFM : PFM fM (C 1)) (hwr : ∀ i, wr i ≤ 8192) (hW : ∀ i, i < m → wr i + 1 ≤ wr (i + 1)) (hz9 : m < z) (hI : RWY kd wr m z fA fM lu lev cur pn W bnd (d + 1) 295) (hK : 4 * bnd ≤ K + 1)
    (h7 : gi fM 7 n = 5) (h9 : gi fM 9 n = Int32.ofNat xs.length) (h12 : nd fM 12 n = t) (hx8 : nxL fM (K + 1) (gi fM 8 n) = xs) (hR : rowR kd fM W xs lo (d + 1) (t + 2) e) (hx : ∀ x ∈ xs, x < bnd) (he : e < m) (hk : kd e = 44) (h2 : kd t = 2) (hk1 : kd (t + 1) = 43) (hd : d < 40) (hte : t + 2 ≤ e) :
    SPE kd wr z fA lu lev pn d t (e + 1) 0 (FLX fM lu cur (K + 2) 0 n 1) (fun b b' g => PC1 fM fA lu cur lev (K + 2) n b b' 0 g) (4 * (wr (e + 1) - wr t)) (fX4_statement_61 rc (Int32.ofNat d)) := by
  have hw0 := hW t (by omega)
  have hw1 := hW (t + 1) (by omega)
  have hw2 := hW e (by omega)
  have hw3 : wr (t + 2) ≤ wr e := by
    by_cases q : t + 2 = e
    · rw [q]; exact Nat.le_refl _
    · have := wr_mo hW e (s := t + 2) (by omega) (by omega)
      omega
  have hw1 : wr (t + 1) + 1 ≤ wr (t + 2) := hw1
  have hSS : SPE kd wr z fA lu lev pn d t (e + 1) 0 (FLX fM lu cur (K + 2) 0 n 1) (fun b b' g => ∃ b1, (FLX fM lu cur (K + 2) 0 n 1 = [] → CDC fM fA lu lev (K + 2) 0 n 0 b b1 g) ∧ gl g 41 b1 = wdC 27 0 1 ∧ b' = b1 + 1) (4 * (wr e - wr (t + 2)) + 7) (fun w => bn (fX4_named (Int32.ofNat d) w) fun w5 => some (0, w5)) := by
    intro w a base ob hw hb ho ha
    have hz := hw.a_lt
    obtain ⟨u, s1, s2⟩ := s_named (d := d) h2 (by omega) (by omega) hw
    obtain ⟨_, v, a', v1, v2⟩ := c_calls (f := 1) (N := 899) hS hFM hwr hW hz9 hI hK (by omega) h7 h9 h12 hx8 hR hx he hk hk1 hd (s2.cL (by unfold gvF; rw [if_neg (by decide)])) (by omega) (by omega) (by omega)
    have hb1 := v2.2.2.2.2.1
    obtain ⟨v3, p1, p2⟩ := EC.put2 (x := 27) (c := 1) v2.1 (by omega)
    refine ⟨v3, a' + 1, ?_, ((v2.seq p2).wk (fun b b' g hg => hg) (by omega)).cL (by simp)⟩
    have v1' : RX2_typed 900 8 (Int32.ofNat d) (Int32.ofNat (lu t)) (Int32.ofNat t) u = some (0, v) := v1
    show (bn (fX4_named (Int32.ofNat d) w) _) = _
    rw [s1]
    unfold fX4_named_83
    rw [v1', bn2_so, p1, lt2q, bn_so]
  refine (st_61 h2 (fun w hw hk => ?_) hSS (by omega)).wk (fun b b' g hg => hg) (Nat.le_refl _)
  obtain ⟨x, w2, p⟩ := hw
  unfold fX4_statement_61
  rw [ltq, hk, if_pos (show Int32.ofNat 2 = 2 from rfl), p, lt2q]
end ES
