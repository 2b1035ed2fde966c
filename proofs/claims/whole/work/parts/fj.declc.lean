/-! PASS 2, THE CLASS: VARIABLES and switches are declared -/
section EC
variable {kd wr : Nat → Nat} {z : Nat} {fA fM : Wd} {lu : Nat → Nat} {lev cur : Nat} {pn : Nat → Int32} {base ob t a n s e d m i0 : Nat} {w u : Wd} {C TK : Nat → Nat}
theorem c_decl {so ty : Int32} (h : GC2 kd wr z fA lu lev pn t a base ob w) (hk : kd t = 2) : fX4_declared so ty w = (gi fA 25 t, si w 4 9 (Int32.ofNat (t + 1))) ∧ EC kd wr z fA lu lev pn base ob (t + 1) a a w (si w 4 9 (Int32.ofNat (t + 1))) [] (fun b b' _ => b' = b) 0 := by
  have hz := h.a_lt
  obtain ⟨n1, n2⟩ := EC.need h (k := 2) hk (by omega)
  refine ⟨?_, n2⟩
  unfold fX4_declared
  rw [a_at h.1, ltq, show (2 : Int32) = Int32.ofNat 2 from rfl, n1, ltq, if_neg n2.1.2.1]
  unfold fX8_declaredAt
  rw [rgi_iN (by omega) (by omega), n2.1.2.2.2.2.2.1 25 _ (by omega)]
  rfl
theorem c_vars {ty : Int32} {own : Bool} {j : Nat} (hN : NMS kd fM s j i0) (hk40 : kd (s + 2 * j - 1) ≠ 40) : ∀ (r i f : Nat) (w : Wd), i + r + 1 = j → r ≤ f → GC2 kd wr z fA lu lev pn (s + 2 * i) a base ob w →
    ∃ u, fX4_variables_25 (oX4_variables_2 (f + 1)) ty own (Int32.ofNat i) w = some u ∧ EC kd wr z fA lu lev pn base ob (s + 2 * j - 1) a a w u [] (fun b b' _ => b' = b) 0 := by
  intro r
  induction r with
  | zero =>
    intro i f w hi hf hw
    have hz := hw.a_lt
    obtain ⟨k1, k2, _⟩ := hN i (by omega)
    obtain ⟨d1, d2⟩ := c_decl (so := 1) (ty := ty) hw k1
    have he : s + 2 * j - 1 = s + 2 * i + 1 := by omega
    rw [he] at hk40 ⊢
    refine ⟨_, ?_, d2⟩
    unfold fX4_variables_25
    rw [d1, lt2q, if_neg d2.1.2.1, ad1_iN, ltq]
    show fX4_variables_2 (oX4_variables_2 f) _ _ _ _ = _
    unfold fX4_variables_2
    rw [if_neg (show ¬ ((8193 : Int32) ≤ Int32.ofNat (i + 1)) from nle_iN (a := 8193) (by omega) (by omega)), if_neg (show ¬ (Int32.ofNat (i + 1) = 0) from of_ne (k := 0) (by omega) (by omega) (by omega)), show (40 : Int32) = Int32.ofNat 40 from rfl, c_ntake d2.1 (by omega) hk40, lt2q, if_neg (show ¬ (false = true) from by decide)]
  | succ r ih =>
    intro i f w hi hf hw
    have hz := hw.a_lt
    obtain ⟨k1, k2, _⟩ := hN i (by omega)
    have k2 := k2 (by omega)
    obtain ⟨d1, d2⟩ := c_decl (so := 1) (ty := ty) hw k1
    obtain ⟨t1, t2⟩ := EC.take d2.1 (k := 40) (by omega) (by rw [k2]; rfl)
    obtain ⟨f, rfl⟩ : ∃ f', f = f' + 1 := ⟨f - 1, by omega⟩
    obtain ⟨u, u1, u2⟩ := ih (i + 1) f _ (by omega) (by omega) (show GC2 kd wr z fA lu lev pn (s + 2 * (i + 1)) a base ob _ from t2.1)
    refine ⟨u, ?_, (((d2.seq t2).seq u2).wk (fun b b' g hg => ?_) (by omega)).cL (by simp)⟩
    · unfold fX4_variables_25
      rw [d1, lt2q, if_neg d2.1.2.1, ad1_iN, ltq]
      show fX4_variables_2 (oX4_variables_2 (f + 1)) _ _ _ _ = _
      unfold fX4_variables_2
      rw [if_neg (show ¬ ((8193 : Int32) ≤ Int32.ofNat (i + 1)) from nle_iN (a := 8193) (by omega) (by omega)), if_neg (show ¬ (Int32.ofNat (i + 1) = 0) from of_ne (k := 0) (by omega) (by omega) (by omega)), t1, lt2q, if_pos rfl]
      exact u1
    · obtain ⟨b1, ⟨b2, g1, g2⟩, g3⟩ := hg
      rw [g3, g2, g1]
theorem c_variables {ty : Int32} {own : Bool} {j : Nat} (hN : NMS kd fM s j i0) (hj : 1 ≤ j) (hk40 : kd (s + 2 * j - 1) ≠ 40) (hw : GC2 kd wr z fA lu lev pn s a base ob w) (hjz : j ≤ 9000) :
    ∃ u, fX4_variables ty own w = some u ∧ EC kd wr z fA lu lev pn base ob (s + 2 * j - 1) a a w u [] (fun b b' _ => b' = b) 0 := by
  obtain ⟨fo, hf⟩ := FU_ge (k := j + 2) (by omega)
  obtain ⟨u, u1, u2⟩ := c_vars (ty := ty) (own := own) hN hk40 (j - 1) 0 (fo + j) w (by omega) (by omega) hw
  refine ⟨u, ?_, u2⟩
  unfold fX4_variables
  rw [hf]
  show fX4_variables_2 (oX4_variables_2 (fo + j + 1)) _ _ _ _ = _
  unfold fX4_variables_2
  rw [if_neg (by decide), if_pos rfl]
  exact u1
end EC
/-- AIMS of a switch: each with where the next begins before it -/
def swPc (fM fA : Wd) (lu : Nat → Nat) (cur lev K : Nat) : List Nat → Nat → Nat → Wd → Prop
  | [], b, b', _ => b' = b
  | x :: r, b, b', g => ∃ b1, gl g 41 b = Int32.toInt64 (Int32.ofNat (b1 + 1)) ∧ (FLX fM lu cur K 2 x 0 = [] → CDC fM fA lu lev K 2 x 0 (b + 1) b1 g) ∧ gl g 41 b1 = wdC 46 0 0 ∧ swPc fM fA lu cur lev K r (b1 + 1) b' g
def swFc (fM : Wd) (lu : Nat → Nat) (cur K : Nat) (xs : List Nat) : List (Nat × Int32) := xs.flatMap (fun x => FLX fM lu cur K 2 x 0)
/-- a switch, symbol y -/
def PSWc (fM fA : Wd) (lu : Nat → Nat) (cur lev K y : Nat) (xs : List Nat) (b b' _Z : Nat) (g : Wd) : Prop := gl g 41 b = jwC 33 b' ∧ gl g 41 (y + 1) = Int32.toInt64 (Int32.ofNat (b + 1)) ∧ gl g 41 (b + 1) = Int32.toInt64 (Int32.ofNat xs.length) ∧ swPc fM fA lu cur lev K xs (b + 2) b' g
section ES
variable {kd wr nm TK : Nat → Nat} {z : Nat} {fA fM : Wd} {SL : Nat → List Nat} {NS ns SZ lev cur m : Nat} {pn : Nat → Int32} {i i0 i1 t e d K lo lo' sg sz kp nsc s y : Nat} {stk : List Nat} {C : Nat → Nat} {sc : Int32}
theorem aims_lt : ∀ (xs : List Nat) (lo s : Nat), CHNW kd fM 40 (fun lo x s e lo' => XAM kd sc lo x d s e fA fM ∧ lo' = x + 1) xs lo s e lo' → s < e ∧ lo < lo' ∧ xs.length + s ≤ e := by
  intro xs
  induction xs with
  | nil => exact fun _ _ h => h.elim
  | cons x r ih =>
    intro lo s h
    have hx : ∀ {lo e lo'}, XAM kd sc lo x d s e fA fM ∧ lo' = x + 1 → s < e ∧ lo < lo' := fun {lo e lo'} h => by
      have h1 := amX_lt _ _ _ _ (PAM_am 41 h.1.2)
      have h2 := (PAM.agr 41 fM fM _ _ _ _ _ h.1.2).1
      omega
    cases r with
    | nil =>
      have := hx h.1
      have hl : ([x] : List Nat).length = 1 := rfl
      omega
    | cons y r =>
      obtain ⟨e1, l1, h1, h2, h3, h4⟩ := h
      have := hx h1
      have := ih _ _ h4
      have hl : (x :: y :: r).length = (y :: r).length + 1 := rfl
      omega
theorem aims_c {a3 a4 : Int32} (hc : CTX kd wr m z C TK fA fM (luN nm TK SL stk) lev cur pn) (he : e ≤ m) (hlo : lo' ≤ 24000) (hk40 : kd e ≠ 40) (hd : d ≤ 40) (hK : 96100 ≤ K) (hi : i ≤ ns) : ∀ (xs : List Nat) (lo s : Nat), CHNW kd fM 40 (fun lo x s e lo' => XAM kd sc lo x d s e fA fM ∧ lo' = x + 1) xs lo s e lo' →
    ∀ (q f a : Nat) (w : Wd), GTC kd wr nm TK z fA SL NS ns SZ lev pn s a sg sz kp nsc stk 0 w → a + (4 * (wr e - wr s) + 1) ≤ 36872 → xs.length ≤ f → q ≤ s →
    ∃ u a', fX4_aims_81 (oX4_aims_56 f) (Int32.ofNat d) a3 a4 (Int32.ofNat q) w = fX4_aims_133 a3 a4 (Int32.ofNat (q + xs.length)) u ∧ ESC kd wr nm TK z fA SL NS ns SZ lev pn i i e a a' sg sz sz kp nsc stk 0 w u (swFc fM (luN nm TK SL stk) cur K xs) (fun b b' _ g => swPc fM fA (luN nm TK SL stk) cur lev K xs b b' g) (4 * (wr e - wr s) + 1) := by
  obtain ⟨hS, hFM, hPN, hwr, hz, hW, hz9, hk0⟩ := id hc
  intro xs
  induction xs with
  | nil => exact fun _ _ h => h.elim
  | cons x r ih =>
    intro lo s h q f a w hG ha hf hq
    have hcf := hG.cfit
    have hfirst : ∀ (e1 l1 : Nat), XAM kd sc lo x d s e1 fA fM → x < 24000 → e1 ≤ m → wr e1 ≤ wr e → ∃ u a', fX4_aims_81 (oX4_aims_56 f) (Int32.ofNat d) a3 a4 (Int32.ofNat q) w = oX4_aims_56 f (Int32.ofNat d) a3 a4 (Int32.ofNat (q + 1)) u ∧ ESC kd wr nm TK z fA SL NS ns SZ lev pn i i e1 a a' sg sz sz kp nsc stk 0 w u (FLX fM (luN nm TK SL stk) cur K 2 x 0) (fun b b' _ g => ∃ b1, gl g 41 b = Int32.toInt64 (Int32.ofNat (b1 + 1)) ∧ (FLX fM (luN nm TK SL stk) cur K 2 x 0 = [] → CDC fM fA (luN nm TK SL stk) lev K 2 x 0 (b + 1) b1 g) ∧ gl g 41 b1 = wdC 46 0 0 ∧ b' = b1 + 1) (4 * (wr e1 - wr s) + 1) := fun e1 l1 h1 hx he1 hwe => by
      obtain ⟨⟨_, c2, _, c4, _⟩, c5⟩ := xam_aic hc h1 hx he1 hd
      obtain ⟨w1, p1, p2⟩ := EC.word (x := 0) hG.gc (by omega)
      obtain ⟨w2, a1, r1, r2⟩ := c5 K 900 (by omega) (by omega) w1 (a + 1) 0 0 p2.1 (by omega) (by omega) (by omega)
      have hb1 := r2.2.2.2.2.1
      obtain ⟨w3, k1, k2⟩ := EC.put1 (x := 46) r2.1 (by omega)
      have E1 := ESC.ec (i := i) hG p2 hi
      have E2 := ESC.ec (i := i) E1.1 (r2.seq k2) hi
      have r1' : RX2_typed 900 11 (Int32.ofNat d) 1 0 w1 = some (0, w2) := r1
      have E3 := ESC.over (Q := fun _ b' _ x' => x' = Int32.toInt64 (Int32.ofNat b')) (x := Int32.toInt64 (Int32.ofNat (a1 + 1))) E1 E2 (fun _ _ => rfl)
      refine ⟨_, _, ?_, (E3.wk (fun b b' Z g hg => ?_) (by omega)).cL (by simp)⟩
      · unfold fX4_aims_81
        rw [p1, lt2q, r1', bn2_so, k1, lt2q, show fX0_here w3 = Int32.ofNat (a1 + 1) from k2.1.2.2.1, ltq]
        unfold fX0_set
        rw [rsl_iN (by omega) (by omega), ltq, ltq, ad1_iN, ltq]
      · obtain ⟨g1, b1, g2, g3, g4⟩ := hg
        rw [g4] at g1
        exact ⟨b1, g1, g2, g3, g4⟩
    have hln : (x :: r).length = r.length + 1 := rfl
    cases r with
    | nil =>
      obtain ⟨⟨h1, h1'⟩, _⟩ := h
      have hlt0 := amX_lt _ _ _ _ (PAM_am 41 h1.2)
      obtain ⟨u, a', u1, u2⟩ := hfirst e lo' h1 (by omega) he (Nat.le_refl _)
      refine ⟨u, a', ?_, (u2.wk (fun b b' Z g ⟨b1, g1, g2, g3, g4⟩ => ⟨b1, g1, g2, g3, g4⟩) (Nat.le_refl _)).cL (by unfold swFc; simp)⟩
      rw [u1]
      obtain ⟨f, rfl⟩ : ∃ f', f = f' + 1 := ⟨f - 1, by have : ([] : List Nat).length = 0 := rfl; omega⟩
      show fX4_aims_56 (oX4_aims_56 f) _ _ _ _ u = _
      unfold fX4_aims_56
      rw [if_neg (show ¬ ((8193 : Int32) ≤ Int32.ofNat (q + 1)) from nle_iN (a := 8193) (by omega) (by omega)), if_neg (show ¬ (Int32.ofNat (q + 1) = 0) from of_ne (k := 0) (by omega) (by omega) (by omega)), show (40 : Int32) = Int32.ofNat 40 from rfl, c_ntake u2.1.gc (by omega) hk40, lt2q, if_neg (show ¬ (false = true) from by decide)]
      rfl
    | cons y r =>
      obtain ⟨e1, l1, h1, hk, h11, h4⟩ := h
      have hlt := amX_lt _ _ _ _ (PAM_am 41 h1.1.2)
      have hlt2 := aims_lt _ _ _ h4
      have hwe := wr_mo hW e (s := e1) (by omega) he
      have hw1 := hW e1 (by omega)
      have hwe2 := wr_mo hW e (s := e1 + 1) (by omega) he
      have hws := wr_mo hW e1 (s := s) (by omega) (by omega)
      obtain ⟨u, a', u1, u2⟩ := hfirst e1 l1 h1.1 (by omega) (by omega) (by omega)
      have hb5 := u2.2.2.2.2.1
      obtain ⟨t1, t2⟩ := EC.take u2.1.gc (k := 40) (by omega) (by rw [hk]; rfl)
      have E2 := ESC.ec (i := i) u2.1 t2 hi
      obtain ⟨f, rfl⟩ : ∃ f', f = f' + 1 := ⟨f - 1, by omega⟩
      obtain ⟨v, a2, v1, v2⟩ := ih l1 (e1 + 1) h4 (q + 1) f a' _ E2.1 (by omega) (by omega) (by omega)
      refine ⟨v, a2, ?_, (((u2.seq E2).seq v2).wk (fun b b' Z g hg => ?_) (by omega)).cL ?_⟩
      · rw [u1]
        show fX4_aims_56 (oX4_aims_56 f) _ _ _ _ u = _
        unfold fX4_aims_56
        rw [if_neg (show ¬ ((8193 : Int32) ≤ Int32.ofNat (q + 1)) from nle_iN (a := 8193) (by omega) (by omega)), if_neg (show ¬ (Int32.ofNat (q + 1) = 0) from of_ne (k := 0) (by omega) (by omega) (by omega)), t1, lt2q, if_pos rfl, v1, show q + 1 + (y :: r).length = q + (x :: y :: r).length by omega]
      · obtain ⟨b1, ⟨b2, ⟨b3, g1, g2, g3, g4⟩, g5⟩, g6⟩ := hg
        rw [g5, g4] at g6
        exact ⟨b3, g1, g2, g3, g6⟩
      · unfold swFc
        simp
theorem s_switch {xs : List Nat} (hc : CTX kd wr m z C TK fA fM (luN nm TK SL stk) lev cur pn) (h13 : kd t = 13) (h2 : kd (t + 1) = 2) (h50 : kd (t + 2) = 50) (hY : SYM kd m C TK fA fM y) (h22 : gi fM 22 y = Int32.ofNat (t + 1)) (hy : y < ns) (h : CHNW kd fM 40 (fun lo x s e lo' => XAM kd sc lo x d s e fA fM ∧ lo' = x + 1) xs lo (t + 3) e lo') (he : e ≤ m) (hlo : lo' ≤ 24000) (hk40 : kd e ≠ 40) (hd : d ≤ 40) (hK : 96100 ≤ K) :
    SSC kd wr nm TK z fA SL NS ns SZ lev pn sg kp nsc nsc y (y + 1) t e stk (swFc fM (luN nm TK SL stk) cur K xs) (PSWc fM fA (luN nm TK SL stk) cur lev K y xs) (4 * (wr e - wr t)) (fun w => bn (fX4_aims (Int32.ofNat d) w) fun w => some (0, w)) := by
  obtain ⟨hS, hFM, hPN, hwr, hz, hW, hz9, hk0⟩ := id hc
  have hlt := aims_lt _ _ _ h
  intro w a sz hG ha
  have hcf := hG.cfit
  have m1 := hW t (by omega)
  have m2 : wr (t + 1) + 1 ≤ wr (t + 2) := hW (t + 1) (by omega)
  have m3 : wr (t + 2) + 1 ≤ wr (t + 3) := hW (t + 2) (by omega)
  have m4 := wr_mo hW e hlt.1 he
  obtain ⟨y1, y2, y3, y4, y5, _⟩ := hY
  have hTK : TK y = t + 1 := by
    rw [h22] at y4
    exact ((eq_iN (by omega) (by omega)).mp y4).symm
  rw [hTK] at y5
  obtain ⟨n1, n2⟩ := EC.need hG.gc (k := 13) h13 (by omega)
  obtain ⟨d1, d2⟩ := c_decl (so := 5) (ty := 0) n2.1 h2
  rw [y5] at d1
  obtain ⟨n3, n4⟩ := EC.need d2.1 (k := 50) h50 (by omega)
  have E1 := ESC.ec (i := y) hG ((n2.seq d2).seq n4) (by omega)
  obtain ⟨w1, p1, p2⟩ := EC.put1 (x := 33) E1.1.gc (by omega)
  have J := ESC.ec (i := y) E1.1 p2 (by omega)
  obtain ⟨c1, c2⟩ := ESC.cell (i := y) J.1 hy
  obtain ⟨w2, q1, q2⟩ := EC.word (x := 0) c2.1.gc (by omega)
  have E3 := ESC.ec (i := y + 1) c2.1 q2 (by omega)
  obtain ⟨fo, hf⟩ := FU_ge (k := xs.length + 1) (by omega)
  obtain ⟨u, a', u1, u2⟩ := aims_c (a3 := Int32.ofNat a) (a4 := Int32.ofNat (a + 1)) (i := y + 1) hc he hlo hk40 hd hK (by omega) xs lo (t + 3) h 0 (fo + xs.length) (a + 1 + 1) w2 (show GTC kd wr nm TK z fA SL NS ns SZ lev pn (t + 3) (a + 1 + 1) sg sz kp nsc stk 0 w2 from E3.1) (by omega) (by omega) (by omega)
  have hb5 := u2.2.2.2.2.1
  have E4 := ESC.over (Q := fun _ _ _ x' => x' = Int32.toInt64 (Int32.ofNat xs.length)) (x := Int32.toInt64 (Int32.ofNat xs.length)) E3 u2 (fun _ _ => rfl)
  obtain ⟨yy, v, v1, v2⟩ := ESC.jmp J (c2.seq E4) (by omega) (by decide)
  refine ⟨v, _, _, ?_, ((E1.seq v2).wk (fun b b' Z g hg => ?_) (by omega)).cL (by simp)⟩
  · have h56 : oX4_aims_56 FU (Int32.ofNat d) (Int32.ofNat a) (Int32.ofNat (a + 1)) 0 w2 = fX4_aims_81 (oX4_aims_56 (fo + xs.length)) (Int32.ofNat d) (Int32.ofNat a) (Int32.ofNat (a + 1)) (Int32.ofNat 0) w2 := by
      rw [hf, ← Nat.add_assoc]
      show fX4_aims_56 (oX4_aims_56 (fo + xs.length)) _ _ _ _ w2 = _
      unfold fX4_aims_56
      rw [if_neg (by decide), if_pos rfl]
      rfl
    show bn (fX4_aims (Int32.ofNat d) w) _ = _
    unfold fX4_aims
    rw [show (13 : Int32) = Int32.ofNat 13 from rfl, n1, ltq, d1, lt2q, show (50 : Int32) = Int32.ofNat 50 from rfl, n3, ltq, p1, lt2q, c1, ltq, q1, lt2q, h56, u1, Nat.zero_add]
    unfold fX4_aims_133 fX0_set
    rw [rsl_iN (by omega) (by omega), ltq, ltq, v1, lt2q, bn_so]
  · obtain ⟨b1, ⟨b2, ⟨b3, g1, g2⟩, g3⟩, g4, b4, ⟨g5, g5'⟩, g6, g7⟩ := hg
    rw [g3, g2, g1] at g4 g5 g5'
    rw [g5] at g6 g7
    exact ⟨g4, g5', g6, g7⟩
end ES
