/-! PASS 2, THE CLASS: calls -/
/-- the formal of an ACTUAL by its number; 0 if there is none -/
def fmC (fA : Wd) (l i : Nat) : Int32 := if gi fA 14 l = 3 then (if gi fA 19 l ≤ Int32.ofNat i then 0 else gi fA 20 l + Int32.ofNat i) else 0
/-- one ACTUAL -/
def clI (rc : TX2_typed) (a2 a5 a4 : Int32) (w : Wd) : Option (Int32 × Wd) := lt (fX8_formal a2 a4 w) fun x1 => lt (fX8_sort x1 w) fun x2 => if x2 = 1 then (lt (fX8_isFormal x1 w) fun x4 => if x4 = true then (rc 10 a5 x1 0 w) else (rc 9 a5 x1 0 w)) else (rc 9 a5 x1 0 w)
/-- a wrong number of ACTUALS -/
def nmC (fA : Wd) (l t len : Nat) : List (Nat × Int32) := if gi fA 14 l = 3 then (if Int32.ofNat len = gi fA 19 l then [] else [(t, 5)]) else []
section EC
variable {kd wr : Nat → Nat} {z : Nat} {fA fM : Wd} {lu : Nat → Nat} {lev cur : Nat} {pn : Nat → Int32} {base ob t t1 t2 t3 a a1 a2 a3 n s e d f l : Nat} {w w1 w2 w3 w4 u v : Wd} {L L1 L2 L3 : List (Nat × Int32)} {P P1 P2 P3 : Nat → Nat → Wd → Prop} {B B1 B2 B3 : Nat}
theorem cl_60 {rc : TX2_typed} {k : Int32 → Int32 → Int32 → Int32 → Wd → Option (Int32 × Wd)} {a2 a3 a4 a5 : Int32} : fX2_call_60 rc k a2 a3 a4 a5 w = bn2 (clI rc a2 a5 a4 w) fun _ w7 => k a2 a3 (a4 + 1) a5 w7 := by
  unfold fX2_call_60 clI
  rw [ltq, ltq, ltq, ltq, ltq, ltq]
  by_cases q : fX8_sort (fX8_formal a2 a4 w) w = 1
  · rw [if_pos q, if_pos q]
    cases fX8_isFormal (fX8_formal a2 a4 w) w
    · rw [if_neg (by decide), if_neg (by decide)]; rfl
    · rw [if_pos rfl, if_pos rfl]; rfl
  · rw [if_neg q, if_neg q]; rfl
theorem c_formalN {i : Nat} (h : GC2 kd wr z fA lu lev pn t a base ob w) (hl : l ≤ 4100) : fX8_formal (Int32.ofNat l) (Int32.ofNat i) w = fmC fA l i := by
  unfold fX8_formal fmC
  rw [ltq, c_sort h hl, ltq, c_size h hl]
  by_cases q : gi fA 14 l = 3
  · rw [if_pos q, if_pos q]
    by_cases q2 : gi fA 19 l ≤ Int32.ofNat i
    · rw [if_pos q2, if_pos q2]
      unfold fX8_formal_23
      exact if_neg (by decide)
    · rw [if_neg q2, if_neg q2]
      unfold fX8_formal_23
      rw [if_pos rfl, ltq, c_row h hl (by omega)]
  · rw [if_neg q, if_neg q]
    unfold fX8_formal_23
    exact if_neg (by decide)
/-- behind the ACTUALS -/
theorem c_131 {rc : TX2_typed} {len : Nat} {L0 : List (Nat × Int32)} (h : EC kd wr z fA lu lev pn base ob e a a1 w v L0 P B) (hl : l ≤ 4100) (ht : t < z) (ha : a1 + 1 < 36872) :
    ∃ u, fX2_call_131 rc (Int32.ofNat l) (Int32.ofNat t) (Int32.ofNat len) v = some (0, u) ∧ EC kd wr z fA lu lev pn base ob e a (a1 + 2) w u (L0 ++ nmC fA l t len) (fun b b' g => ∃ b1, P b b1 g ∧ puC fA lev l b1 (b1 + 1) g ∧ gl g 41 (b1 + 1) = wdC 42 0 0 ∧ b' = b1 + 2) (B + 2) := by
  have ha1 := h.2.2.2.2.1
  have h165 : ∀ {x : Wd} {L1 : List (Nat × Int32)}, EC kd wr z fA lu lev pn base ob e a1 a1 v x L1 (fun b b' _ => b' = b) 0 → ∃ u, fX2_call_165 rc (Int32.ofNat l) x = some (0, u) ∧ EC kd wr z fA lu lev pn base ob e a (a1 + 2) w u (L0 ++ L1) (fun b b' g => ∃ b1, P b b1 g ∧ puC fA lev l b1 (b1 + 1) g ∧ gl g 41 (b1 + 1) = wdC 42 0 0 ∧ b' = b1 + 2) (B + 2) := by
    intro x L1 hx
    have p1 := c_putSymbol hx.1 hl (by omega)
    obtain ⟨u, u1, u2⟩ := EC.put1 (x := 42) p1.1 (by omega)
    refine ⟨u, ?_, ((h.seq (hx.seq (p1.seq u2))).wk (fun b b' g hg => ?_) (by omega)).cL ?_⟩
    · unfold fX2_call_165
      rw [ltq, u1, lt2q]
    · obtain ⟨b1, c1, b2, c2, b3, c3, c4⟩ := hg
      rw [c2] at c3
      have h3 := c3.2
      rw [h3] at c3 c4
      exact ⟨b1, c1, c3, c4.1, c4.2⟩
    · rw [List.nil_append, List.append_nil]
  unfold fX2_call_131 nmC
  rw [ltq, c_sort h.1 hl, ltq, c_size h.1 hl]
  by_cases q : gi fA 14 l = 3
  · rw [if_pos q, if_pos q]
    by_cases q2 : Int32.ofNat len = gi fA 19 l
    · rw [if_pos q2, if_pos q2]
      exact h165 (EC.no h.1)
    · obtain ⟨m1, m2⟩ := EC.note h.1 ht (n := 5) (by decide)
      rw [if_neg q2, if_neg q2, m1, ltq]
      exact h165 m2
  · rw [if_neg q, if_neg q]
    exact h165 (EC.no h.1)
/-- a call with ACTUALS, behind its NAME -/
theorem c_call {W : PWT} {rc : TX2_typed} {m bnd lo : Nat} {xs : List Nat} {FL : Nat → Nat → List (Nat × Int32)} {PP : Nat → Nat → Nat → Nat → Wd → Prop} (hW : ∀ i, i < m → wr i + 1 ≤ wr (i + 1)) (hz9 : m < z)
    (hI : ∀ lo x s e cn i, W lo x (d + 1) s e cn → x < bnd → e ≤ m → s < e ∧ (i ≤ s → SPE kd wr z fA lu lev pn (d + 1) s e 0 (FL x i) (PP x i) (4 * (wr e - wr s) + 4 - 1) (clI rc (Int32.ofNat l) (Int32.ofNat (d + 1)) (Int32.ofNat i)))) (hR : rowR kd fM W xs lo (d + 1) (t + 2) e) (hx : ∀ x ∈ xs, x < bnd) (he : e < m) (hk : kd e = 44) (hk1 : kd (t + 1) = 43) (hl : l ≤ 4100) (hd : d < 40)
    (h : GC2 kd wr z fA lu lev pn (t + 1) a base ob w) (hb : base ≤ 10 * (d + 1)) (ho : ob ≤ 9 * (d + 1)) (ha : a + (4 * (wr e - wr (t + 2)) + 6) ≤ 36872) :
    ∃ u a', fX2_call rc (Int32.ofNat d) (Int32.ofNat l) (Int32.ofNat t) w = some (0, u) ∧ EC kd wr z fA lu lev pn base ob (e + 1) a a' w u (rwF9 FL xs 0 ++ nmC fA l t xs.length) (fun b b' g => gl g 41 b = wdC 41 0 0 ∧ ∃ b1, rwM (fun x i b b' => PP x i b b' g) xs 0 (b + 1) b1 ∧ puC fA lev l b1 (b1 + 1) g ∧ gl g 41 (b1 + 1) = wdC 42 0 0 ∧ b' = b1 + 2) (4 * (wr e - wr (t + 2)) + 6) := by
  have hz := h.1.2.1
  obtain ⟨hl1, hl2⟩ := row_len (fun lo x s e cn h hx he => (hI lo x s e cn 0 h hx he).1) xs _ _ _ hR hx (by omega)
  obtain ⟨w1, p1, p2⟩ := EC.put1 (x := 41) h (by omega)
  obtain ⟨o1, o2⟩ := EC.opn p2.1 (d := d) (by omega) (by omega) hd
  obtain ⟨fo, hf⟩ := FU_ge (k := xs.length + 1) (by omega)
  have hlp : RLP (clI rc (Int32.ofNat l) (Int32.ofNat (d + 1))) (fun fo x w => oX2_call_35 rc fo (Int32.ofNat l) (Int32.ofNat t) x (Int32.ofNat (d + 1)) w) (fun x w => lt (fX9_need 44 w) fun w2 => fX2_call_131 rc (Int32.ofNat l) (Int32.ofNat t) x w2) := fun fo x w => by
    show fX2_call_35 rc (oX2_call_35 rc fo) (Int32.ofNat l) (Int32.ofNat t) x (Int32.ofNat (d + 1)) w = _
    unfold fX2_call_35
    rw [cl_60]
    by_cases q1 : 8193 ≤ x
    · rw [if_pos q1, if_pos q1]
    · rw [if_neg q1, if_neg q1]
      by_cases q2 : x = 0
      · rw [if_pos q2, if_pos q2]
      · rw [if_neg q2, if_neg q2, lt2q, lt2q, cl_60]
  obtain ⟨v, a1, u1, u2⟩ := row_c (q := 4) hlp hW hz9 (by omega) hI xs lo (t + 2) e 0 fo _ (a + 1) base ob hR hx (by omega) (by omega) (by omega) o2.1 hb ho (by omega)
  have hb2 := u2.2.2.2.2.1
  obtain ⟨n1, n2⟩ := EC.need u2.1 hk (by omega)
  obtain ⟨x, x1, x2⟩ := c_131 (rc := rc) (l := l) (t := t) (len := xs.length) (p2.seq (o2.seq (u2.seq n2))) hl (by omega) (by omega)
  refine ⟨x, a1 + 2, ?_, (x2.wk (fun b b' g hg => ?_) (by omega)).cL ?_⟩
  · unfold fX2_call
    rw [p1, lt2q, ltq, a_kind p2.1.1, if_pos (show Int32.ofNat (kd (t + 1)) = 43 by rw [hk1]; rfl), o1, lt2q, hf, ← Nat.add_assoc]
    refine (hlp (fo + xs.length) 0 _).trans ?_
    rw [if_neg (show ¬ ((8193 : Int32) ≤ 0) by decide), if_pos rfl]
    rw [Nat.zero_add] at u1
    refine u1.trans ?_
    show lt (fX9_need (Int32.ofNat 44) v) _ = _
    rw [n1, ltq]
    exact x1
  · obtain ⟨b1, ⟨b2, c2, b3, c3, b4, c4, c5⟩, c6, c7, c8⟩ := hg
    rw [c2.2] at c3
    rw [c3] at c4
    rw [c5] at c6 c7 c8
    exact ⟨c2.1, b4, c4, c6, c7, c8⟩
  · rw [List.nil_append, List.nil_append, List.append_nil]
/-- a call without -/
theorem c_call0 {rc : TX2_typed} (h : GC2 kd wr z fA lu lev pn (t + 1) a base ob w) (hk1 : kd (t + 1) ≠ 43) (hl : l ≤ 4100) (ht : t < z) (ha : a + 2 < 36872) :
    ∃ u, fX2_call rc (Int32.ofNat d) (Int32.ofNat l) (Int32.ofNat t) w = some (0, u) ∧ EC kd wr z fA lu lev pn base ob (t + 1) a (a + 3) w u (nmC fA l t 0) (fun b b' g => gl g 41 b = wdC 41 0 0 ∧ puC fA lev l (b + 1) (b + 2) g ∧ gl g 41 (b + 2) = wdC 42 0 0 ∧ b' = b + 3) 3 := by
  obtain ⟨w1, p1, p2⟩ := EC.put1 (x := 41) h (by omega)
  obtain ⟨x, x1, x2⟩ := c_131 (rc := rc) (l := l) (t := t) (len := 0) p2 hl ht (by omega)
  refine ⟨x, ?_, x2.wk (fun b b' g hg => ?_) (by omega)⟩
  · unfold fX2_call
    rw [p1, lt2q, ltq, a_kind p2.1.1, if_neg (show ¬ (Int32.ofNat (kd (t + 1)) = 43) from of_ne (k := 43) (by have := h.1.2.2.1 (t + 1); omega) (by omega) hk1)]
    exact x1
  · obtain ⟨b1, c1, c2, c3, c4⟩ := hg
    rw [c1.2] at c2 c3 c4
    exact ⟨c1.1, c2, c3, c4⟩
end EC
