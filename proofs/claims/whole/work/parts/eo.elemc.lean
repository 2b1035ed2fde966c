/-! PASS 2, THE CLASS: ELEMENTS -/
/-- a part from TOKEN t to e: answers X, notes L, makes P, of at most T words -/
def SPE (kd wr : Nat → Nat) (z : Nat) (fA : Wd) (lu : Nat → Nat) (lev : Nat) (pn : Nat → Int32) (d t e : Nat) (X : Int32) (L : List (Nat × Int32)) (P : Nat → Nat → Wd → Prop) (T : Nat) (r : Wd → Option (Int32 × Wd)) : Prop :=
  ∀ w a base ob, GC2 kd wr z fA lu lev pn t a base ob w → base ≤ 10 * d → ob ≤ 9 * d → a + T ≤ 36872 → ∃ u a', r w = some (X, u) ∧ EC kd wr z fA lu lev pn base ob e a a' w u L P T
section EC
variable {kd wr : Nat → Nat} {z : Nat} {fA fM : Wd} {lu : Nat → Nat} {lev : Nat} {pn : Nat → Int32} {base ob t t1 t2 t3 a a1 a2 a3 n s : Nat} {w w1 w2 w3 w4 u v : Wd} {L L1 L2 L3 : List (Nat × Int32)} {P P1 P2 P3 : Nat → Nat → Wd → Prop} {B B1 B2 B3 : Nat}
theorem SPE.typed {d e T : Nat} {X ty : Int32} {rc : TX2_typed} (h : SPE kd wr z fA lu lev pn d t e X L P T (fun w => rc 2 (Int32.ofNat d) 0 0 w)) (ht : t < z) : SPE kd wr z fA lu lev pn d t e 0 (L ++ difT ty X t) P T (fun w => fX2_typed rc (Int32.ofNat d) ty w) := by
  intro w a base ob hw hb ho ha
  obtain ⟨u, a', u1, u2⟩ := h w a base ob hw hb ho ha
  refine ⟨_, a', ?_, (u2.seq (EC.check (x := ty) (y := X) (s := t) u2.1 ht)).wk (fun b b' g ⟨b1, g1, g2⟩ => by rw [g2]; exact g1) (Nat.le_refl _)⟩
  show fX2_typed rc (Int32.ofNat d) ty w = _
  unfold fX2_typed
  rw [ltq, a_at hw.1]
  have u1' : rc 2 (Int32.ofNat d) 0 0 w = some (X, u) := u1
  rw [u1', bn2_so, ltq]
/-- a row of faults -/
def rwF9 (FL : Nat → Nat → List (Nat × Int32)) : List Nat → Nat → List (Nat × Int32)
  | [], _ => []
  | x :: r, i => FL x i ++ rwF9 FL r (i + 1)
theorem rwF9_im {FL GL : Nat → Nat → List (Nat × Int32)} : ∀ (xs : List Nat) (i : Nat), (∀ x ∈ xs, ∀ i, FL x i = GL x i) → rwF9 FL xs i = rwF9 GL xs i := by
  intro xs
  induction xs with
  | nil => exact fun _ _ => rfl
  | cons x r ih =>
    intro i h
    show FL x i ++ rwF9 FL r (i + 1) = GL x i ++ rwF9 GL r (i + 1)
    rw [h x List.mem_cons_self, ih _ (fun y hy => h y (List.mem_cons_of_mem _ hy))]
theorem rwF9_flat {FL : Nat → List (Nat × Int32)} : ∀ (xs : List Nat) (i : Nat), rwF9 (fun x _ => FL x) xs i = xs.flatMap FL := by
  intro xs
  induction xs with
  | nil => exact fun _ => rfl
  | cons x r ih =>
    intro i
    show FL x ++ rwF9 _ r (i + 1) = _
    rw [ih, List.flatMap_cons]
theorem wr_mo {m : Nat} (hW : ∀ i, i < m → wr i + 1 ≤ wr (i + 1)) {s : Nat} : ∀ e, s < e → e ≤ m → wr s + 1 ≤ wr e := by
  intro e
  induction e with
  | zero => intro h; omega
  | succ e ih =>
    intro h1 h2
    have := hW e (by omega)
    by_cases q : s = e
    · rw [q]; exact this
    · have := ih (by omega) (by omega)
      omega
theorem row_len {W : PWT} {d m bnd : Nat} (hlt : ∀ lo x s e cn, W lo x d s e cn → x < bnd → e ≤ m → s < e) : ∀ (xs : List Nat) (lo s e : Nat), rowR kd fM W xs lo d s e → (∀ x ∈ xs, x < bnd) → e ≤ m → 1 ≤ xs.length ∧ s + xs.length ≤ e := by
  intro xs
  induction xs with
  | nil => exact fun _ _ _ h => h.elim
  | cons x r ih =>
    intro lo s e h hx he
    cases r with
    | nil =>
      obtain ⟨⟨cn, h1⟩, h2⟩ := h
      have := hlt lo x s e cn h1 (hx x List.mem_cons_self) he
      exact ⟨by simp, by show s + 1 ≤ e; omega⟩
    | cons y r =>
      obtain ⟨e1, ⟨cn, h1⟩, h2, h3, h4, h5, h6⟩ := h
      obtain ⟨_, i1⟩ := ih _ _ _ h6 (fun z hz => hx z (List.mem_cons_of_mem _ hz)) he
      have hl : (x :: y :: r).length = (y :: r).length + 1 := rfl
      have := hlt lo x s e1 cn h1 (hx x List.mem_cons_self) (by omega)
      exact ⟨by omega, by omega⟩
/-- a loop over what stands in a row -/
def RLP (it : Int32 → Wd → Option (Int32 × Wd)) (lp : Nat → Int32 → Wd → Option (Int32 × Wd)) (ex : Int32 → Wd → Option (Int32 × Wd)) : Prop :=
  ∀ fo x w, lp (fo + 1) x w = if 8193 ≤ x then ex x w else if x = 0 then (bn2 (it x w) fun _ w4 => lp fo (x + 1) w4) else lt2 (fX9_take 40 w) fun x6 w7 => if x6 = true then (bn2 (it x w7) fun _ w10 => lp fo (x + 1) w10) else ex x w7
theorem row_c {W : PWT} {d m bnd q : Nat} {FL : Nat → Nat → List (Nat × Int32)} {PP : Nat → Nat → Nat → Nat → Wd → Prop} {it : Int32 → Wd → Option (Int32 × Wd)} {lp : Nat → Int32 → Wd → Option (Int32 × Wd)} {ex : Int32 → Wd → Option (Int32 × Wd)} (hlp : RLP it lp ex) (hW : ∀ i, i < m → wr i + 1 ≤ wr (i + 1)) (hz9 : m < z) (hq : q ≤ 4)
    (hI : ∀ lo x s e cn i, W lo x d s e cn → x < bnd → e ≤ m → s < e ∧ (i ≤ s → SPE kd wr z fA lu lev pn d s e 0 (FL x i) (PP x i) (4 * (wr e - wr s) + q - 1) (it (Int32.ofNat i)))) : ∀ (xs : List Nat) (lo s e i fo : Nat) (w : Wd) (a base ob : Nat), rowR kd fM W xs lo d s e → (∀ x ∈ xs, x < bnd) → e ≤ m → kd e ≠ 40 → i ≤ s → GC2 kd wr z fA lu lev pn s a base ob w → base ≤ 10 * d → ob ≤ 9 * d → a + (4 * (wr e - wr s) + q - 1) ≤ 36872 →
    ∃ u a', (bn2 (it (Int32.ofNat i) w) fun _ w4 => lp (fo + xs.length) (Int32.ofNat i + 1) w4) = ex (Int32.ofNat (i + xs.length)) u ∧ EC kd wr z fA lu lev pn base ob e a a' w u (rwF9 FL xs i) (fun b b' g => rwM (fun x i b b' => PP x i b b' g) xs i b b') (4 * (wr e - wr s) + q - 1) := by
  intro xs
  induction xs with
  | nil => exact fun _ _ _ _ _ _ _ _ _ h => h.elim
  | cons x r ih =>
    intro lo s e i fo w a base ob h hx he hk hi hw hb ho ha
    have hz := hw.1.2.1
    have hxb := hx x List.mem_cons_self
    have hnext : ∀ {e1 a1 : Nat} {v : Wd}, GC2 kd wr z fA lu lev pn e1 a1 base ob v → e1 ≤ m → s < e1 → (kd e1 ≠ 40 → lp (fo + (r.length + 1)) (Int32.ofNat (i + 1)) v = ex (Int32.ofNat (i + 1)) v) ∧ (kd e1 = 40 → lp (fo + (r.length + 1)) (Int32.ofNat (i + 1)) v = bn2 (it (Int32.ofNat (i + 1)) (si v 4 9 (Int32.ofNat (e1 + 1)))) fun _ w4 => lp (fo + r.length) (Int32.ofNat (i + 1) + 1) w4) := by
      intro e1 a1 v hv h1 h2
      rw [← Nat.add_assoc, hlp]
      rw [if_neg (show ¬ ((8193 : Int32) ≤ Int32.ofNat (i + 1)) from nle_iN (a := 8193) (by omega) (by omega)), if_neg (show ¬ (Int32.ofNat (i + 1) = 0) from of_ne (k := 0) (by omega) (by omega) (by omega))]
      refine ⟨fun g => ?_, fun g => ?_⟩
      · rw [show (40 : Int32) = Int32.ofNat 40 from rfl, a_take_no hv.1 (by omega) g, lt2q, if_neg (by simp)]
      · rw [(EC.take hv (k := 40) (by omega) (by rw [g]; rfl)).1, lt2q, if_pos rfl]
    cases r with
    | nil =>
      obtain ⟨⟨cn, h1⟩, h2⟩ := h
      obtain ⟨g1, g2⟩ := hI lo x s e cn i h1 hxb he
      obtain ⟨u, a', u1, u2⟩ := g2 hi w a base ob hw hb ho ha
      refine ⟨u, a', ?_, (u2.wk (fun b b' g hg => ⟨b', hg, rfl⟩) (Nat.le_refl _)).cL ?_⟩
      · rw [u1, bn2_so, ad1_iN]
        exact (hnext u2.1 he g1).1 hk
      · show FL x i ++ [] = FL x i
        rw [List.append_nil]
    | cons y r =>
      obtain ⟨e1, ⟨cn, h1⟩, h2, h3, h4, h5, h6⟩ := h
      obtain ⟨hr1, hr2⟩ := row_len (fun lo x s e cn h hx he => (hI lo x s e cn 0 h hx he).1) (y :: r) _ _ _ h6 (fun z hz => hx z (List.mem_cons_of_mem _ hz)) he
      obtain ⟨g1, g2⟩ := hI lo x s e1 cn i h1 hxb (by omega)
      have m1 := wr_mo hW e1 g1 (by omega)
      have m2 := wr_mo hW e (s := e1 + 1) (by omega) he
      have m3 := hW e1 (by omega)
      obtain ⟨u, a', u1, u2⟩ := g2 hi w a base ob hw hb ho (by omega)
      have hb1 := u2.2.2.2.2.1
      have k1 := EC.go u2.1 (t1 := e1 + 1) (by omega) (by omega)
      obtain ⟨v, a'', v1, v2⟩ := ih (x + 1) (e1 + 1) e (i + 1) fo _ a' base ob h6 (fun z hz => hx z (List.mem_cons_of_mem _ hz)) he hk (by omega) k1.1 hb ho (by omega)
      refine ⟨v, a'', ?_, ?_⟩
      · rw [u1, bn2_so, ad1_iN]
        refine ((hnext u2.1 (by omega) g1).2 h2).trans (v1.trans ?_)
        rw [show i + 1 + (y :: r).length = i + (x :: y :: r).length by rw [List.length_cons, List.length_cons, List.length_cons]; omega]
      · refine ((u2.seq (k1.seq v2)).wk (fun b b' g ⟨b1, c1, b2, c2, c3⟩ => ⟨b1, c1, by rw [c2] at c3; exact c3⟩) (by omega)).cL ?_
        rfl
/-- a wrong number of indices -/
def nmE (fA : Wd) (l t len : Nat) : List (Nat × Int32) := if gi fA 14 l = 2 then (if gi fA 16 l = 3 then (if (3 : Int32) < Int32.ofNat len then [(t, 5)] else []) else if Int32.ofNat len = gi fA 19 l then [] else [(t, 5)]) else []
def srE (fA : Wd) (x : Int32) (l t : Nat) : List (Nat × Int32) := if gi fA 14 l = x ∨ gi fA 14 l = 0 then [] else [(t, 4)]
theorem c_el80 {rc : TX2_typed} {l len e : Nat} (h : GC2 kd wr z fA lu lev pn e a base ob w) (hk : kd e = 46) (hl : l ≤ 4100) (ht : t < z) (hlen : len ≤ 8193) (ha : a < 36872) :
    ∃ u, fX2_element_80 rc (Int32.ofNat l) (Int32.ofNat t) (Int32.ofNat len) w = some (Int32.ofNat len, u) ∧ EC kd wr z fA lu lev pn base ob (e + 1) a (a + 1) w u (nmE fA l t len) (fun b b' g => gl g 41 b = wdC 25 0 (Int32.ofNat len) ∧ b' = b + 1) 1 := by
  obtain ⟨n1, n2⟩ := EC.need h hk (by omega)
  unfold fX2_element_80 nmE
  rw [show (46 : Int32) = Int32.ofNat 46 from rfl, n1, ltq, ltq, c_sort n2.1 hl]
  have hp : ∀ {v : Wd} {L : List (Nat × Int32)}, EC kd wr z fA lu lev pn base ob (e + 1) a a w v L (fun b b' _ => b' = b) 0 → ∃ u, lt2 (fX0_put_ 25 (Int32.ofNat len) v) (fun _ w3 => some (Int32.ofNat len, w3)) = some (Int32.ofNat len, u) ∧ EC kd wr z fA lu lev pn base ob (e + 1) a (a + 1) w u L (fun b b' g => gl g 41 b = wdC 25 0 (Int32.ofNat len) ∧ b' = b + 1) 1 := by
    intro v L hv
    obtain ⟨u, u1, u2⟩ := EC.put2 (x := 25) (c := Int32.ofNat len) hv.1 ha
    rw [u1, lt2q]
    refine ⟨u, rfl, ((hv.seq u2).wk (fun b b' g ⟨b1, g1, g2⟩ => by rw [g1] at g2; exact g2) (by omega)).cL (List.append_nil _).symm⟩
  have h144 : ∀ (q : Prop) [Decidable q], ∃ u, (if q then fX2_element_144 rc false (Int32.ofNat t) (Int32.ofNat len) (si w 4 9 (Int32.ofNat (e + 1))) else fX2_element_144 rc true (Int32.ofNat t) (Int32.ofNat len) (si w 4 9 (Int32.ofNat (e + 1)))) = some (Int32.ofNat len, u) ∧ EC kd wr z fA lu lev pn base ob (e + 1) a (a + 1) w u (if q then [(t, 5)] else []) (fun b b' g => gl g 41 b = wdC 25 0 (Int32.ofNat len) ∧ b' = b + 1) 1 := by
    intro q _
    by_cases hq : q
    · rw [if_pos hq, if_pos hq]
      unfold fX2_element_144
      obtain ⟨m1, m2⟩ := EC.note n2.1 ht (n := 5) (by decide)
      rw [if_neg (by decide), m1, ltq]
      exact hp ((n2.seq m2).wk (fun b b' g ⟨b1, g1, g2⟩ => by rw [g1] at g2; exact g2) (by omega))
    · rw [if_neg hq, if_neg hq]
      unfold fX2_element_144
      rw [if_pos rfl]
      exact hp n2
  by_cases q2 : gi fA 14 l = 2
  · rw [if_pos q2, if_pos q2, ltq]
    obtain ⟨f1, f2⟩ := c_formal n2.1 hl
    by_cases q3 : gi fA 16 l = 3
    · rw [f1 q3, if_pos rfl, if_pos q3]
      exact h144 _
    · rw [f2 q3, if_neg (by decide), if_neg q3, ltq, c_size n2.1 hl]
      obtain ⟨u, u1, u2⟩ := h144 (¬ (Int32.ofNat len = gi fA 19 l))
      rw [ite_not] at u1 u2
      exact ⟨u, u1, u2⟩
  · rw [if_neg q2, if_neg q2]
    exact hp n2
/-- '[' indices ']' -/
theorem c_element {W : PWT} {rc : TX2_typed} {d m bnd l lo e : Nat} {xs : List Nat} {FL : Nat → Nat → List (Nat × Int32)} {PP : Nat → Nat → Nat → Nat → Wd → Prop} (hW : ∀ i, i < m → wr i + 1 ≤ wr (i + 1)) (hz9 : m < z)
    (hI : ∀ lo x s e cn i, W lo x (d + 1) s e cn → x < bnd → e ≤ m → s < e ∧ SPE kd wr z fA lu lev pn (d + 1) s e 0 (FL x i) (PP x i) (4 * (wr e - wr s) - 1) (fun w => rc 0 (Int32.ofNat (d + 1)) 1 0 w)) (hR : rowR kd fM W xs lo (d + 1) (t + 2) e) (hx : ∀ x ∈ xs, x < bnd) (he : e < m) (hk : kd e = 46) (hk1 : kd (t + 1) = 45) (hl : l ≤ 4100) (hd : d < 40)
    (h : GC2 kd wr z fA lu lev pn (t + 1) a base ob w) (hb : base ≤ 10 * (d + 1)) (ho : ob ≤ 9 * (d + 1)) (ha : a + (4 * (wr e - wr (t + 2)) + 1) ≤ 36872) :
    ∃ u a', fX2_element rc (Int32.ofNat d) (Int32.ofNat l) (Int32.ofNat t) w = some (Int32.ofNat xs.length, u) ∧ EC kd wr z fA lu lev pn base ob (e + 1) a a' w u (srE fA 2 l t ++ rwF9 FL xs 0 ++ nmE fA l t xs.length) (fun b b' g => ∃ b0 b1, puC fA lev l b b0 g ∧ rwM (fun x i b b' => PP x i b b' g) xs 0 b0 b1 ∧ gl g 41 b1 = wdC 25 0 (Int32.ofNat xs.length) ∧ b' = b1 + 1) (4 * (wr e - wr (t + 2)) + 1) := by
  have hz := h.1.2.1
  obtain ⟨hl1, hl2⟩ := row_len (fun lo x s e cn h hx he => (hI lo x s e cn 0 h hx he).1) xs _ _ _ hR hx (by omega)
  have hw2 := wr_mo hW e (s := t + 2) (by omega) (by omega)
  have h21 : ∀ {v : Wd} {L : List (Nat × Int32)}, EC kd wr z fA lu lev pn base ob (t + 1) a a w v L (fun b b' _ => b' = b) 0 → ∃ u a', fX2_element_21 rc (Int32.ofNat d) (Int32.ofNat l) (Int32.ofNat t) v = some (Int32.ofNat xs.length, u) ∧ EC kd wr z fA lu lev pn base ob (e + 1) a a' w u (L ++ rwF9 FL xs 0 ++ nmE fA l t xs.length) (fun b b' g => ∃ b0 b1, puC fA lev l b b0 g ∧ rwM (fun x i b b' => PP x i b b' g) xs 0 b0 b1 ∧ gl g 41 b1 = wdC 25 0 (Int32.ofNat xs.length) ∧ b' = b1 + 1) (4 * (wr e - wr (t + 2)) + 1) := by
    intro v L hv
    have p1 := c_putSymbol hv.1 hl (by omega)
    obtain ⟨o1, o2⟩ := EC.opn p1.1 (d := d) (by omega) (by omega) hd
    obtain ⟨f, hf⟩ := FU_ge (k := xs.length + 1) (by omega)
    have hlp : RLP (fun _ w => rc 0 (Int32.ofNat (d + 1)) 1 0 w) (fun fo x w => oX2_element_42 rc fo (Int32.ofNat l) (Int32.ofNat t) (Int32.ofNat (d + 1)) x w) (fun x w => fX2_element_80 rc (Int32.ofNat l) (Int32.ofNat t) x w) := fun fo x w => rfl
    obtain ⟨u, a', u1, u2⟩ := row_c (q := 0) hlp hW hz9 (by omega) (fun lo x s e cn i h hx he => ⟨(hI lo x s e cn i h hx he).1, fun _ => (hI lo x s e cn i h hx he).2⟩) xs lo (t + 2) e 0 f _ (a + 1) base ob hR hx (by omega) (by omega) (by omega) o2.1 hb ho (by omega)
    have hb2 := u2.2.2.2.2.1
    obtain ⟨v2, v3, v4⟩ := c_el80 (rc := rc) u2.1 hk hl (t := t) (len := xs.length) (by omega) (by omega) (by omega)
    refine ⟨v2, a' + 1, ?_, ((hv.seq (p1.seq (o2.seq (u2.seq v4)))).wk (fun b b' g hg => ?_) (by omega)).cL ?_⟩
    · unfold fX2_element_21
      rw [ltq, o1, lt2q, hf, ← Nat.add_assoc]
      show fX2_element_42 rc (oX2_element_42 rc (f + xs.length)) _ _ _ 0 _ = _
      unfold fX2_element_42
      rw [if_neg (show ¬ ((8193 : Int32) ≤ 0) by decide), if_pos rfl]
      rw [Nat.zero_add] at u1
      exact u1.trans v3
    · obtain ⟨b1, c1, b2, c2, b3, c3, b4, c4, c5⟩ := hg
      rw [c1] at c2
      rw [c3] at c4
      exact ⟨b2, b4, c2, c4, c5⟩
    · rw [List.append_assoc]
      rfl
  unfold fX2_element srE
  rw [ltq]
  obtain ⟨s1, s2⟩ := c_isSort h hl (x := 2)
  by_cases q : gi fA 14 l = 2 ∨ gi fA 14 l = 0
  · rw [s1 q, if_pos rfl, if_pos q]
    exact h21 (EC.no h)
  · obtain ⟨m1, m2⟩ := EC.note h (s := t) (n := 4) (by omega) (by decide)
    rw [s2 q, if_neg (by decide), if_neg q, m1, ltq]
    exact h21 m2
end EC
