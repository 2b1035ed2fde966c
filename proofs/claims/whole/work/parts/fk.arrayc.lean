/-! PASS 2, THE CLASS: ARRAYS are declared -/
/-- bounds, one after the other -/
def bdPc (fM fA : Wd) (lu : Nat → Nat) (cur lev K : Nat) : List Nat → Nat → Nat → Wd → Prop
  | [], b, b', _ => b' = b
  | x :: r, b, b', g => ∃ b1, valC fM fA lu cur lev K x b b1 g ∧ bdPc fM fA lu cur lev K r b1 b' g
def bdFc (fM : Wd) (lu : Nat → Nat) (cur K : Nat) (xs : List Nat) : List (Nat × Int32) := xs.flatMap (fun x => mbL fM lu cur K x 1)
/-- ARRAYS y .. y + j - 1, with nb bounds each -/
def PARc (fM fA : Wd) (lu : Nat → Nat) (cur lev K y j nb : Nat) (xs : List Nat) (b b' _Z : Nat) (g : Wd) : Prop := ∃ b1, bdPc fM fA lu cur lev K xs b b1 g ∧ (∀ i, i < j → gl g 41 (b1 + i) = wdC 30 (Int32.ofNat nb) (gi fA 18 (y + i + 1))) ∧ gl g 41 (b1 + j) = wdC 27 0 (Int32.ofNat (2 * nb)) ∧ b' = b1 + j + 1
section EC
variable {kd wr : Nat → Nat} {z : Nat} {fA fM : Wd} {lu : Nat → Nat} {lev cur : Nat} {pn : Nat → Int32} {base ob t a n s e d m i0 K lo' : Nat} {w u : Wd} {C TK : Nat → Nat} {sc : Int32}
theorem c_arn {ty x3 : Int32} {j : Nat} (hN : NMS kd fM s j i0) (hk45 : kd (s + 2 * j - 1) = 45) : ∀ (r i f : Nat) (w : Wd), i + r = j → 1 ≤ i → GC2 kd wr z fA lu lev pn (s + 2 * i - 1) a base ob w →
    ∃ u, oX4_arrays_20 (f + r + 1) (Int32.ofNat d) ty x3 (Int32.ofNat i) w = (bn2 (fX4_bounds (Int32.ofNat d) u) fun x14 w15 => oX4_arrays_68 FU x3 (Int32.ofNat j) x14 0 w15) ∧ EC kd wr z fA lu lev pn base ob (s + 2 * j - 1) a a w u [] (fun b b' _ => b' = b) 0 := by
  intro r
  induction r with
  | zero =>
    intro i f w hi h1 hw
    have hz := hw.a_lt
    have hij : i = j := by omega
    subst hij
    refine ⟨w, ?_, EC.no hw⟩
    show fX4_arrays_20 (oX4_arrays_20 (f + 0)) _ _ _ _ _ = _
    unfold fX4_arrays_20
    rw [if_neg (show ¬ ((8193 : Int32) ≤ Int32.ofNat i) from nle_iN (a := 8193) (by omega) (by omega)), if_neg (show ¬ (Int32.ofNat i = 0) from of_ne (k := 0) (by omega) (by omega) (by omega)), show (40 : Int32) = Int32.ofNat 40 from rfl, c_ntake hw (by omega) (by omega), lt2q, if_neg (show ¬ (false = true) from by decide)]
  | succ r ih =>
    intro i f w hi h1 hw
    have hz := hw.a_lt
    obtain ⟨_, k2, _⟩ := hN (i - 1) (by omega)
    obtain ⟨k1, _, _⟩ := hN i (by omega)
    have k2 := k2 (by omega)
    rw [show s + 2 * (i - 1) + 1 = s + 2 * i - 1 by omega] at k2
    obtain ⟨t1, t2⟩ := EC.take hw (k := 40) (by omega) (by rw [k2]; rfl)
    have t3 : GC2 kd wr z fA lu lev pn (s + 2 * i) a base ob (si w 4 9 (Int32.ofNat (s + 2 * i - 1 + 1))) := by
      have := t2.1
      rw [show s + 2 * i - 1 + 1 = s + 2 * i by omega] at this ⊢
      exact this
    obtain ⟨d1, d2⟩ := c_decl (so := 2) (ty := ty) t3 k1
    obtain ⟨u, u1, u2⟩ := ih (i + 1) f _ (by omega) (by omega) (show GC2 kd wr z fA lu lev pn (s + 2 * (i + 1) - 1) a base ob _ from d2.1)
    have hlast := (((t2.seq d2).seq u2).wk (P1 := fun b b' _ => b' = b) (fun b b' g hg => by
      obtain ⟨b1, ⟨b2, g1, g2⟩, g3⟩ := hg
      rw [g3, g2, g1]) (Nat.le_refl _)).cL (L1 := []) (by simp)
    refine ⟨u, ?_, hlast⟩
    show fX4_arrays_20 (oX4_arrays_20 (f + r + 1)) _ _ _ _ _ = _
    unfold fX4_arrays_20
    rw [if_neg (show ¬ ((8193 : Int32) ≤ Int32.ofNat i) from nle_iN (a := 8193) (by omega) (by omega)), if_neg (show ¬ (Int32.ofNat i = 0) from of_ne (k := 0) (by omega) (by omega) (by omega)), t1, lt2q, if_pos rfl, d1, lt2q, ad1_iN, ltq]
    exact u1
theorem bd_lt : ∀ (k : Nat) (xs : List Nat) (lo s : Nat), xs.length = 2 * (k + 1) → PRSX kd fA fM sc d xs lo s e lo' → s < e ∧ lo < lo' := by
  intro k
  induction k with
  | zero =>
    intro xs lo s hx h
    match xs, h with
    | [x, y], h =>
      obtain ⟨e1, e2, c1, c2, p1, p2, p3, p4, p5, p6, p7⟩ := h
      have := xw_lt _ _ _ _ (PWR_xw 41 p1.2)
      have := xw_lt _ _ _ _ (PWR_xw 41 p3.2)
      have := (PWR.agr 41 fM fM _ _ _ _ _ _ p1.2).1
      have := (PWR.agr 41 fM fM _ _ _ _ _ _ p3.2).1
      omega
    | x :: y :: v :: r, h =>
      have : (x :: y :: v :: r).length = r.length + 3 := rfl
      omega
  | succ k ih =>
    intro xs lo s hx h
    match xs, h with
    | [x, y], h =>
      have : ([x, y] : List Nat).length = 2 := rfl
      omega
    | x :: y :: v :: r, h =>
      obtain ⟨e1, e2, c1, c2, p1, p2, p3, p4, p5, p6, p7⟩ := h
      have h1 : (x :: y :: v :: r).length = (v :: r).length + 2 := rfl
      have := ih (v :: r) (y + 1) (e2 + 1) (by omega) p7
      have := xw_lt _ _ _ _ (PWR_xw 41 p1.2)
      have := xw_lt _ _ _ _ (PWR_xw 41 p3.2)
      have := (PWR.agr 41 fM fM _ _ _ _ _ _ p1.2).1
      have := (PWR.agr 41 fM fM _ _ _ _ _ _ p3.2).1
      omega
theorem bd_c {nb : Nat} (hc : CTX kd wr m z C TK fA fM lu lev cur pn) (he : e ≤ m) (hlo : lo' ≤ 24000) (hk46 : kd e = 46) (hd : d ≤ 40) (hK : 96100 ≤ K) (hnb : nb ≤ 3) (hb : base ≤ 10 * d) (ho : ob ≤ 9 * d) : ∀ (k : Nat) (xs : List Nat) (lo s : Nat), xs.length = 2 * (k + 1) → PRSX kd fA fM sc d xs lo s e lo' →
    ∀ (q f a : Nat) (w : Wd), q + k + 1 = nb → GC2 kd wr z fA lu lev pn s a base ob w → a + 4 * (wr e - wr s) ≤ 36872 →
    ∃ u a', fX4_bounds_60 (oX4_bounds_39 (f + k + 1)) (Int32.ofNat d) (Int32.ofNat q) w = fX4_bounds_93 (Int32.ofNat nb) u ∧ EC kd wr z fA lu lev pn base ob e a a' w u (bdFc fM lu cur K xs) (bdPc fM fA lu cur lev K xs) (4 * (wr e - wr s)) := by
  obtain ⟨hS, hFM, hPN, hwr, hz, hW, hz9, hk0⟩ := id hc
  -- one PAIR
  have hpair : ∀ (x y lo s e1 e2 c1 c2 q f a : Nat) (w : Wd), XPR kd sc lo x d s e1 c1 fA fM → kd e1 = 42 → XPR kd sc (x + 1) y d (e1 + 1) e2 c2 fA fM → y < 24000 → e2 ≤ m → q ≤ 3 → GC2 kd wr z fA lu lev pn s a base ob w → a + 4 * (wr e2 - wr s) ≤ 36872 →
      s < e2 ∧ wr s + 1 ≤ wr e2 ∧ ∃ u a', fX4_bounds_60 (oX4_bounds_39 f) (Int32.ofNat d) (Int32.ofNat q) w = oX4_bounds_39 f (Int32.ofNat d) (Int32.ofNat (q + 1)) u ∧ EC kd wr z fA lu lev pn base ob e2 a a' w u (mbL fM lu cur K x 1 ++ mbL fM lu cur K y 1) (fun b b' g => ∃ b1, valC fM fA lu cur lev K x b b1 g ∧ valC fM fA lu cur lev K y b1 b' g) (4 * (wr e2 - wr s)) := by
    intro x y lo s e1 e2 c1 c2 q f a w hx hk42 hy hyn he2 hq hw ha
    have hxy := (PWR.agr 41 fM fM _ _ _ _ _ _ hy.2).1
    have hlty := xw_lt _ _ _ _ (PWR_xw 41 hy.2)
    obtain ⟨hlt1, hA1⟩ := xpr_alc hc hx (by omega) (by omega) hd
    obtain ⟨hlt2, hA2⟩ := xpr_alc hc hy hyn he2 hd
    have hw1 := hA1.1.2.2.1.2.2.1
    have hw2 := hA2.1.2.2.1.2.2.1
    have hw3 := hW e1 (by omega)
    obtain ⟨v1, a1, x1, x2⟩ := typ_c (K := K) (ty := 1) hz hA1 (by omega) (by decide) w a base ob hw hb ho (by omega)
    have hb1 := x2.2.2.2.2.1
    obtain ⟨n1, n2⟩ := EC.need x2.1 (k := 42) hk42 (by omega)
    obtain ⟨v2, a2, y1, y2⟩ := typ_c (K := K) (ty := 1) hz hA2 (by omega) (by decide) _ a1 base ob n2.1 hb ho (by omega)
    have x1' : RX2_typed 900 0 (Int32.ofNat d) 1 0 w = some (0, v1) := x1
    have y1' : RX2_typed 900 0 (Int32.ofNat d) 1 0 (si v1 4 9 (Int32.ofNat (e1 + 1))) = some (0, v2) := y1
    refine ⟨by omega, by omega, v2, a2, ?_, (((x2.seq n2).seq y2).wk (fun b b' g hg => ?_) (by omega)).cL (by simp)⟩
    · unfold fX4_bounds_60
      rw [x1', bn2_so, show (42 : Int32) = Int32.ofNat 42 from rfl, n1, ltq, y1', bn2_so, ad1_iN, ltq]
    · obtain ⟨b1, ⟨b2, g1, g2⟩, g3⟩ := hg
      rw [g2] at g3
      exact ⟨b2, g1, g3⟩
  intro k
  induction k with
  | zero =>
    intro xs lo s hx h q f a w hq hw ha
    match xs, h with
    | [x, y], h =>
      obtain ⟨e1, e2, c1, c2, p1, p2, p3, p4, p5, p6, p7⟩ := h
      subst p5
      obtain ⟨_, _, u, a', u1, u2⟩ := hpair x y lo s e1 e c1 c2 q (f + 0 + 1) a w p1 p2 p3 (by omega) he (by omega) hw ha
      refine ⟨u, a', ?_, (u2.wk (fun b b' g ⟨b1, g1, g2⟩ => ⟨b1, g1, b', g2, rfl⟩) (Nat.le_refl _)).cL (by unfold bdFc; simp)⟩
      rw [u1]
      show fX4_bounds_39 (oX4_bounds_39 (f + 0)) _ _ u = _
      unfold fX4_bounds_39
      by_cases q3 : 3 ≤ q + 1
      · rw [if_pos (show (3 : Int32) ≤ Int32.ofNat (q + 1) from yle_iN (a := 3) q3 (by omega)), show q + 1 = nb by omega]
      · rw [if_neg (show ¬ ((3 : Int32) ≤ Int32.ofNat (q + 1)) from nle_iN (a := 3) (by omega) (by omega)), if_neg (show ¬ (Int32.ofNat (q + 1) = 0) from of_ne (k := 0) (by omega) (by omega) (by omega)), show (40 : Int32) = Int32.ofNat 40 from rfl, c_ntake u2.1 (by omega) (by omega), lt2q, if_neg (show ¬ (false = true) from by decide), show q + 1 = nb by omega]
    | x :: y :: v :: r, h =>
      have : (x :: y :: v :: r).length = r.length + 3 := rfl
      omega
  | succ k ih =>
    intro xs lo s hx h q f a w hq hw ha
    match xs, h with
    | [x, y], h =>
      have : ([x, y] : List Nat).length = 2 := rfl
      omega
    | x :: y :: v :: r, h =>
      obtain ⟨e1, e2, c1, c2, p1, p2, p3, p4, p5, p6, p7⟩ := h
      have h1 : (x :: y :: v :: r).length = (v :: r).length + 2 := rfl
      have hlt := bd_lt k (v :: r) (y + 1) (e2 + 1) (by omega) p7
      have hw1 := hW e2 (by omega)
      have hw2 := wr_mo hW e (s := e2 + 1) hlt.1 he
      obtain ⟨hh1, hh2, u, a', u1, u2⟩ := hpair x y lo s e1 e2 c1 c2 q (f + (k + 1) + 1) a w p1 p2 p3 (by omega) (by omega) (by omega) hw (by omega)
      have hb5 := u2.2.2.2.2.1
      obtain ⟨t1, t2⟩ := EC.take u2.1 (k := 40) (by omega) (by rw [p5]; rfl)
      obtain ⟨v9, a2, v1, v2⟩ := ih (v :: r) (y + 1) (e2 + 1) (by omega) p7 (q + 1) f a' _ (by omega) t2.1 (by omega)
      refine ⟨v9, a2, ?_, (((u2.seq t2).seq v2).wk (fun b b' g hg => ?_) (by omega)).cL ?_⟩
      · rw [u1]
        show fX4_bounds_39 (oX4_bounds_39 (f + (k + 1))) _ _ u = _
        unfold fX4_bounds_39
        rw [if_neg (show ¬ ((3 : Int32) ≤ Int32.ofNat (q + 1)) from nle_iN (a := 3) (by omega) (by omega)), if_neg (show ¬ (Int32.ofNat (q + 1) = 0) from of_ne (k := 0) (by omega) (by omega) (by omega)), t1, lt2q, if_pos rfl]
        exact v1
      · obtain ⟨b1, ⟨b2, ⟨b3, g1, g2⟩, g3⟩, g4⟩ := hg
        rw [g3] at g4
        exact ⟨b3, g1, b2, g2, g4⟩
      · unfold bdFc
        simp
/-- a place for each ARRAY -/
theorem c_make {x3 : Int32} {j nb y s1 : Nat} (hx3 : x3 = Int32.ofNat s1) (hT : ∀ i, i < j → gi fA 25 (s1 + 2 * i) = Int32.ofNat (y + i + 1)) (hy : y + j ≤ 4100) (hs1 : s1 + 2 * j ≤ 8193) (hnb : nb ≤ 3) : ∀ (r i f a : Nat) (w : Wd), i + r = j → GC2 kd wr z fA lu lev pn t a base ob w → a + r < 36872 →
    ∃ u, oX4_arrays_68 (f + r + 1) x3 (Int32.ofNat j) (Int32.ofNat nb) (Int32.ofNat i) w = some u ∧ EC kd wr z fA lu lev pn base ob t a (a + r + 1) w u [] (fun b b' g => (∀ q, q < r → gl g 41 (b + q) = wdC 30 (Int32.ofNat nb) (gi fA 18 (y + (i + q) + 1))) ∧ gl g 41 (b + r) = wdC 27 0 (Int32.ofNat (2 * nb)) ∧ b' = b + r + 1) (r + 1) := by
  intro r
  induction r with
  | zero =>
    intro i f a w hi hw ha
    have hij : i = j := by omega
    subst hij
    obtain ⟨u, u1, u2⟩ := EC.put2 (x := 27) (c := Int32.ofNat (2 * nb)) hw (by omega)
    refine ⟨u, ?_, u2.wk (fun b b' g hg => ⟨fun q hq => absurd hq (by omega), hg.1, hg.2⟩) (Nat.le_refl _)⟩
    show fX4_arrays_68 _ _ _ _ _ w = _
    unfold fX4_arrays_68
    rw [if_pos (Int32.le_refl _), show (2 : Int32) * Int32.ofNat nb = Int32.ofNat (2 * nb) from mul_iN 2 nb, u1, lt2q]
  | succ r ih =>
    intro i f a w hi hw ha
    have h25 := hT i (by omega)
    obtain ⟨u, u1, u2⟩ := EC.put (x := 30) (y := Int32.ofNat nb) (c := gi fA 18 (y + i + 1)) hw (by omega)
    obtain ⟨v, v1, v2⟩ := ih (i + 1) f (a + 1) u (by omega) u2.1 (by omega)
    have E := u2.seq v2
    rw [show a + 1 + r + 1 = a + (r + 1) + 1 by omega] at E
    refine ⟨v, ?_, (E.wk (fun b b' g hg => ?_) (by omega)).cL (by simp)⟩
    · show fX4_arrays_68 (oX4_arrays_68 (f + r + 1)) _ _ _ _ w = _
      unfold fX4_arrays_68
      rw [if_neg (show ¬ (Int32.ofNat j ≤ Int32.ofNat i) from nle_iN (by omega) (by omega)), ltq, if_neg hw.2.1, hx3, show (2 : Int32) * Int32.ofNat i = Int32.ofNat (2 * i) from mul_iN 2 i, add_iN]
      unfold fX8_declaredAt fX4_arrays_133
      rw [rgi_iN (by omega) (by omega), hw.2.2.2.2.2.1 25 _ (by omega), h25]
      simp only [ltq, lt2q]
      rw [c_slot hw (by omega), u1, ad1_iN, ← hx3]
      exact v1
    · obtain ⟨b1, ⟨g1, g1'⟩, g2, g3, g4⟩ := hg
      rw [g1'] at g2 g3 g4
      refine ⟨fun q hq => ?_, by rw [show b + (r + 1) = b + 1 + r by omega]; exact g3, by omega⟩
      cases q with
      | zero => exact g1
      | succ q =>
        have := g2 q (by omega)
        rw [show b + (q + 1) = b + 1 + q by omega, show i + (q + 1) = i + 1 + q by omega]
        exact this
end EC
