/-! NAMES are declared: the class -/
/-- faults, as they are noted -/
def FN (p : Int32 × Int32) (num at_ : Int32) : Int32 × Int32 := if p.1 = 0 then (num, at_) else if at_ < p.2 then (num, at_) else if at_ = p.2 then (if p.1 ≤ num then p else (num, at_)) else p
def FLA (w : Wd) : Int32 × Int32 := (gi w 3 6, gi w 3 7)
def FLM (w : Wd) : Int32 × Int32 := (gi w 0 10, gi w 0 11)
def FAU (p q : Int32 × Int32) : Prop := p.1 = q.1 ∧ (p.1 ≠ 0 → p.2 = q.2)
theorem FAU.fn {p q : Int32 × Int32} {num at_ : Int32} (h : FAU p q) : FAU (FN p num at_) (FN q num at_) := by
  rcases p with ⟨p1, p2⟩
  rcases q with ⟨q1, q2⟩
  obtain ⟨a, b⟩ := h
  dsimp only at a b
  subst a
  by_cases q0 : p1 = 0
  · unfold FN
    dsimp only
    rw [if_pos q0, if_pos q0]
    exact ⟨rfl, fun _ => rfl⟩
  · have h2 := b q0
    subst h2
    exact ⟨rfl, fun _ => rfl⟩
theorem i32_tri {a b : Int32} (h : ¬ a < b) (g : ¬ a = b) : b < a := by
  rw [Int32.lt_iff_toInt_lt] at h ⊢
  have : a.toInt ≠ b.toInt := fun e => g (Int32.toInt_inj.mp e)
  omega
theorem i32_asym {a b : Int32} (h : a < b) : ¬ b < a ∧ ¬ b = a := by
  rw [Int32.lt_iff_toInt_lt] at h ⊢
  refine ⟨by omega, fun e => ?_⟩
  rw [e] at h
  omega
theorem i32_tr {a b c : Int32} (h : a < b) (g : b < c) : a < c := by
  rw [Int32.lt_iff_toInt_lt] at h g ⊢
  omega
theorem i32_le {a b : Int32} (h : ¬ a ≤ b) : b ≤ a ∧ ¬ a = b := by
  rw [Int32.le_iff_toInt_le] at h ⊢
  refine ⟨by omega, fun e => ?_⟩
  rw [e] at h
  omega
theorem i32_as {a b : Int32} (h : a ≤ b) (g : b ≤ a) : a = b := by
  rw [Int32.le_iff_toInt_le] at h g
  exact Int32.toInt_inj.mp (by omega)
theorem i32_letr {a b c : Int32} (h : a ≤ b) (g : b ≤ c) : a ≤ c := by
  rw [Int32.le_iff_toInt_le] at h g ⊢
  omega
theorem i32_tot (a b : Int32) : a ≤ b ∨ b ≤ a := by
  rw [Int32.le_iff_toInt_le, Int32.le_iff_toInt_le]
  omega
theorem FN_comm {p : Int32 × Int32} {a x b y : Int32} (ha : a ≠ 0) (hb : b ≠ 0) : FN (FN p a x) b y = FN (FN p b y) a x := by
  rcases p with ⟨p1, p2⟩
  by_cases q0 : p1 = 0
  · have e1 : ∀ c v : Int32, FN (p1, p2) c v = (c, v) := fun c v => if_pos q0
    rw [e1, e1]
    unfold FN
    dsimp only
    rw [if_neg ha, if_neg hb]
    by_cases h1 : y < x
    · rw [if_pos h1, if_neg (i32_asym h1).1, if_neg (i32_asym h1).2]
    · by_cases h2 : y = x
      · subst h2
        rw [if_neg h1, if_pos rfl, if_neg h1, if_pos rfl]
        by_cases h3 : a ≤ b
        · rw [if_pos h3]
          by_cases h4 : b ≤ a
          · rw [if_pos h4, i32_as h3 h4]
          · rw [if_neg h4]
        · rw [if_neg h3, if_pos (i32_le h3).1]
      · have h3 := i32_tri h1 h2
        rw [if_neg h1, if_neg h2, if_pos h3]
  · have e1 : ∀ c v : Int32, FN (p1, p2) c v = if v < p2 then (c, v) else if v = p2 then (if p1 ≤ c then (p1, p2) else (c, v)) else (p1, p2) := fun c v => if_neg q0
    have e2 : ∀ c v : Int32, c ≠ 0 → ∀ c' v' : Int32, FN (c, v) c' v' = if v' < v then (c', v') else if v' = v then (if c ≤ c' then (c, v) else (c', v')) else (c, v) := fun c v hc c' v' => if_neg hc
    rw [e1, e1]
    have key : ∀ (a x b y : Int32), a ≠ 0 → b ≠ 0 → x < p2 → FN (a, x) b y = FN (if y < p2 then (b, y) else if y = p2 then (if p1 ≤ b then (p1, p2) else (b, y)) else (p1, p2)) a x := by
      intro a x b y ha hb hx
      by_cases h1 : y < p2
      · rw [if_pos h1, e2 _ _ ha, e2 _ _ hb]
        by_cases h2 : y < x
        · rw [if_pos h2, if_neg (i32_asym h2).1, if_neg (i32_asym h2).2]
        · by_cases h3 : y = x
          · subst h3
            rw [if_neg h2, if_pos rfl, if_neg h2, if_pos rfl]
            by_cases h4 : a ≤ b
            · rw [if_pos h4]
              by_cases h5 : b ≤ a
              · rw [if_pos h5, i32_as h4 h5]
              · rw [if_neg h5]
            · rw [if_neg h4, if_pos (i32_le h4).1]
          · rw [if_neg h2, if_neg h3, if_pos (i32_tri h2 h3)]
      · have h2 : ¬ y < x := fun h => h1 (i32_tr h hx)
        have h3 : ¬ y = x := fun h => h1 (by rw [h]; exact hx)
        rw [if_neg h1, e2 _ _ ha, if_neg h2, if_neg h3]
        by_cases h4 : y = p2
        · rw [if_pos h4]
          by_cases h5 : p1 ≤ b
          · rw [if_pos h5, e2 _ _ q0, if_pos hx]
          · rw [if_neg h5, e2 _ _ hb, h4, if_pos hx]
        · rw [if_neg h4, e2 _ _ q0, if_pos hx]
    by_cases hx : x < p2
    · rw [if_pos hx]; exact key a x b y ha hb hx
    · by_cases hy : y < p2
      · rw [if_pos hy]; exact (key b y a x hb ha hy).symm
      · rw [if_neg hx, if_neg hy]
        by_cases ex : x = p2
        · by_cases ey : y = p2
          · subst ex
            subst ey
            rw [if_pos rfl, if_pos rfl]
            by_cases h1 : p1 ≤ a
            · rw [if_pos h1, e2 _ _ q0, if_neg hx, if_pos rfl]
              by_cases h2 : p1 ≤ b
              · rw [if_pos h2, e2 _ _ q0, if_neg hx, if_pos rfl, if_pos h1]
              · rw [if_neg h2, e2 _ _ hb, if_neg hx, if_pos rfl, if_pos (i32_letr (i32_le h2).1 h1)]
            · rw [if_neg h1, e2 _ _ ha, if_neg hx, if_pos rfl]
              by_cases h2 : p1 ≤ b
              · rw [if_pos h2, e2 _ _ q0, if_neg hx, if_pos rfl, if_neg h1, if_pos (i32_letr (i32_le h1).1 h2)]
              · rw [if_neg h2, e2 _ _ hb, if_neg hx, if_pos rfl]
                by_cases h4 : a ≤ b
                · rw [if_pos h4]
                  by_cases h5 : b ≤ a
                  · rw [if_pos h5, i32_as h4 h5]
                  · rw [if_neg h5]
                · rw [if_neg h4, if_pos (i32_le h4).1]
          · rw [if_pos ex, if_neg ey]
            by_cases h1 : p1 ≤ a
            · rw [if_pos h1, e2 _ _ q0, if_neg hy, if_neg ey, e2 _ _ q0, if_neg hx, if_pos ex, if_pos h1]
            · rw [if_neg h1, e2 _ _ ha, ex, if_neg hy, if_neg ey, e2 _ _ q0, if_neg (fun h => (i32_asym h).1 h), if_pos rfl, if_neg h1]
        · rw [if_neg ex]
          by_cases ey : y = p2
          · rw [if_pos ey]
            by_cases h1 : p1 ≤ b
            · rw [if_pos h1, e2 _ _ q0, if_neg hy, if_pos ey, if_pos h1, e2 _ _ q0, if_neg hx, if_neg ex]
            · rw [if_neg h1, e2 _ _ q0, if_neg hy, if_pos ey, if_neg h1, e2 _ _ hb, ey, if_neg hx, if_neg ex]
          · rw [if_neg ey, e2 _ _ q0, if_neg hy, if_neg ey, e2 _ _ q0, if_neg hx, if_neg ex]
/-- faults of both, where the reference has noted one 5 the class will note later: c: its TOKEN + 1, or 0 -/
def FAX (wr : Nat → Nat) (c t : Nat) (p q : Int32 × Int32) : Prop := c ≤ t ∧ FAU (if c = 0 then p else FN p 5 (Int32.ofNat (wr (c - 1)))) q
theorem FAX.fn {wr : Nat → Nat} {c t : Nat} {p q : Int32 × Int32} {num at_ : Int32} (h : FAX wr c t p q) (hn : num ≠ 0) : FAX wr c t (FN p num at_) (FN q num at_) := by
  refine ⟨h.1, ?_⟩
  have h2 := h.2
  by_cases q0 : c = 0
  · rw [if_pos q0] at h2 ⊢
    exact h2.fn
  · rw [if_neg q0] at h2 ⊢
    rw [FN_comm hn (by decide)]
    exact h2.fn
theorem FAX.le {wr : Nat → Nat} {c t t' : Nat} {p q : Int32 × Int32} (h : FAX wr c t p q) (ht : t ≤ t') : FAX wr c t' p q := ⟨Nat.le_trans h.1 ht, h.2⟩
theorem note_ok {kd wr : Nat → Nat} {gb : Bool} {z : Nat} {w : Wd} {t a : Nat} {fa num : Int32} (hT : CT kd wr gb z w t fa) (ha : a < z) : FLA (fX1_note (Int32.ofNat a) num w) = FN (FLA w) num (Int32.ofNat (wr a)) ∧ OFF (fun k j => k = 3 ∧ (j = 6 ∨ j = 7)) (fX1_note (Int32.ofNat a) num w) w := by
  have hw : fX9_where (Int32.ofNat a) w = Int32.ofNat (wr a) := by
    unfold fX9_where
    rw [ltq, rgi_iN (n := a) (m := 8193) (by have := hT.2.1; omega) (by omega)]
    exact (hT.2.2.2.2.2.1 a ha).2.1
  have h2 : ∀ x y : Int32, OFF (fun k j => k = 3 ∧ (j = 6 ∨ j = 7)) (si (si w 3 6 x) 3 7 y) w := fun x y => OFF.tr (OFF.si ⟨rfl, Or.inr rfl⟩) (OFF.si ⟨rfl, Or.inl rfl⟩)
  have h3 : ∀ x y : Int32, FLA (si (si w 3 6 x) 3 7 y) = (x, y) := fun x y => by
    unfold FLA
    rw [gi_si1 (by omega), gi_si0, gi_si0]
  unfold fX1_note FN FLA
  rw [ltq, hw]
  dsimp only
  by_cases q0 : gi w 3 6 = 0
  · rw [if_pos q0, if_pos q0]
    exact ⟨h3 _ _, h2 _ _⟩
  · rw [if_neg q0, if_neg q0]
    by_cases q1 : Int32.ofNat (wr a) < gi w 3 7
    · rw [if_pos q1, if_pos q1]
      exact ⟨h3 _ _, h2 _ _⟩
    · rw [if_neg q1, if_neg q1]
      by_cases q2 : Int32.ofNat (wr a) = gi w 3 7
      · rw [if_pos q2, if_pos q2]
        by_cases q3 : gi w 3 6 ≤ num
        · rw [if_pos q3, if_pos q3]
          exact ⟨rfl, OFF.rf⟩
        · rw [if_neg q3, if_neg q3]
          exact ⟨h3 _ _, h2 _ _⟩
      · rw [if_neg q2, if_neg q2]
        exact ⟨rfl, OFF.rf⟩
theorem found_ok {kd wr : Nat → Nat} {m : Nat} {w : Wd} {t d a : Nat} {num : Int32} (hT : SM kd wr m w t d) (ha : a ≤ m) : ∃ u, fX12_found num (Int32.ofNat a) w = some u ∧ FLM u = FN (FLM w) num (Int32.ofNat (wr a)) ∧ OFF (fun k j => k = 0 ∧ (j = 10 ∨ j = 11)) u w := by
  obtain ⟨⟨a1, a2, a3, a4, a5⟩, b, c, e, f⟩ := hT
  have h2 : ∀ x y : Int32, OFF (fun k j => k = 0 ∧ (j = 10 ∨ j = 11)) (si (si w 0 10 x) 0 11 y) w := fun x y => OFF.tr (OFF.si ⟨rfl, Or.inr rfl⟩) (OFF.si ⟨rfl, Or.inl rfl⟩)
  have h3 : ∀ x y : Int32, FLM (si (si w 0 10 x) 0 11 y) = (x, y) := fun x y => by
    unfold FLM
    rw [gi_si1 (by omega), gi_si0, gi_si0]
  unfold fX12_found
  rw [if_pos (inb_iN (by omega) (by omega)), ltq, tc_iN (by omega), (a5 a ha).2]
  unfold FN FLM
  dsimp only
  by_cases q0 : gi w 0 10 = 0
  · rw [if_pos q0, if_pos q0]
    exact ⟨_, rfl, h3 _ _, h2 _ _⟩
  · rw [if_neg q0, if_neg q0]
    by_cases q1 : Int32.ofNat (wr a) < gi w 0 11
    · have q9 : ¬ gi w 0 11 < Int32.ofNat (wr a) := fun h => by
        rw [Int32.lt_iff_toInt_lt] at h q1
        omega
      have q8 : ¬ gi w 0 11 = Int32.ofNat (wr a) := fun h => by
        rw [h] at q1
        exact absurd q1 (by rw [Int32.lt_iff_toInt_lt]; omega)
      rw [if_pos q1, if_neg q9, if_neg q8]
      exact ⟨_, rfl, h3 _ _, h2 _ _⟩
    · rw [if_neg q1]
      by_cases q2 : Int32.ofNat (wr a) = gi w 0 11
      · have q9 : ¬ gi w 0 11 < Int32.ofNat (wr a) := fun h => by
          rw [q2] at h
          exact absurd h (by rw [Int32.lt_iff_toInt_lt]; omega)
        rw [if_pos q2, if_neg q9, if_pos q2.symm]
        by_cases q3 : gi w 0 10 ≤ num
        · have q4 : ¬ num < gi w 0 10 := fun h => by
            rw [Int32.lt_iff_toInt_lt] at h
            rw [Int32.le_iff_toInt_le] at q3
            omega
          rw [if_pos q3, if_neg q4]
          exact ⟨_, rfl, rfl, OFF.rf⟩
        · have q4 : num < gi w 0 10 := by
            rw [Int32.lt_iff_toInt_lt]
            rw [Int32.le_iff_toInt_le] at q3
            omega
          rw [if_neg q3, if_pos q4]
          exact ⟨_, rfl, h3 _ _, h2 _ _⟩
      · have q9 : gi w 0 11 < Int32.ofNat (wr a) := by
          have h1 := mt Int32.toInt_inj.mp q2
          rw [Int32.lt_iff_toInt_lt] at q1 ⊢
          omega
        rw [if_neg q2, if_pos q9]
        exact ⟨_, rfl, rfl, OFF.rf⟩
theorem a_add {a2 a3 a4 a5 : Int32} {w : Wd} {t ns : Nat} (h12 : gi w 13 12 = Int32.ofNat (ns + 1)) (hn : ns + 1 < 4104) (ht : t < 8193) :
    ∃ u, fX8_add (Int32.ofNat t) a2 a3 a4 a5 w = (Int32.ofNat (ns + 1), u) ∧ gi u 13 12 = Int32.ofNat (ns + 2) ∧ gi u 13 14 = gi w 13 14 + (if a3 = 3 then 1 else 0) ∧ (gi u 21 (ns + 1) = Int32.ofNat t ∧ gi u 22 (ns + 1) = a2 ∧ gi u 14 (ns + 1) = a3 ∧ gi u 15 (ns + 1) = a4 ∧ gi u 17 (ns + 1) = a5 ∧ gi u 16 (ns + 1) = 0 ∧ gi u 18 (ns + 1) = 0 ∧ gi u 19 (ns + 1) = 0 ∧ gi u 20 (ns + 1) = 0 ∧ gi u 23 (ns + 1) = 0 ∧ gi u 24 (ns + 1) = 0 ∧ gi u 25 t = Int32.ofNat (ns + 1)) ∧ OFF (fun k j => (k = 13 ∧ (j = 12 ∨ j = 14)) ∨ (14 ≤ k ∧ k ≤ 24 ∧ j = ns + 1) ∨ (k = 25 ∧ j = t)) u w := by
  unfold fX8_add
  rw [h12, ad1_iN]
  have e1 : ∀ (w : Wd) k v, rsi w k 4104 (Int32.ofNat (ns + 1)) v = si w k (ns + 1) v := fun w k v => rsi_iN hn (by omega)
  have e2 : ∀ (w : Wd) v, rsi w 25 8193 (Int32.ofNat t) v = si w 25 t v := fun w v => rsi_iN ht (by omega)
  simp only [ltq, e1, e2]
  have hlast : ∀ (x : Int32) (v : Wd), v = si (si (si (si (si (si (si (si (si (si (si (si (si w 13 12 (Int32.ofNat (ns + 1 + 1))) 21 (ns + 1) (Int32.ofNat t)) 22 (ns + 1) a2) 14 (ns + 1) a3) 15 (ns + 1) a4) 17 (ns + 1) a5) 16 (ns + 1) 0) 18 (ns + 1) 0) 19 (ns + 1) 0) 20 (ns + 1) 0) 23 (ns + 1) 0) 24 (ns + 1) 0) 25 t (Int32.ofNat (ns + 1)) → (if a3 = 3 then (1 : Int32) else 0) = x → ∃ u, (Int32.ofNat (ns + 1), si v 13 14 (gi v 13 14 + x)) = (Int32.ofNat (ns + 1), u) ∧ gi u 13 12 = Int32.ofNat (ns + 2) ∧ gi u 13 14 = gi w 13 14 + (if a3 = 3 then 1 else 0) ∧ (gi u 21 (ns + 1) = Int32.ofNat t ∧ gi u 22 (ns + 1) = a2 ∧ gi u 14 (ns + 1) = a3 ∧ gi u 15 (ns + 1) = a4 ∧ gi u 17 (ns + 1) = a5 ∧ gi u 16 (ns + 1) = 0 ∧ gi u 18 (ns + 1) = 0 ∧ gi u 19 (ns + 1) = 0 ∧ gi u 20 (ns + 1) = 0 ∧ gi u 23 (ns + 1) = 0 ∧ gi u 24 (ns + 1) = 0 ∧ gi u 25 t = Int32.ofNat (ns + 1)) ∧ OFF (fun k j => (k = 13 ∧ (j = 12 ∨ j = 14)) ∨ (14 ≤ k ∧ k ≤ 24 ∧ j = ns + 1) ∨ (k = 25 ∧ j = t)) u w := by
    intro x v hv hx
    have hO : OFF (fun k j => (k = 13 ∧ (j = 12 ∨ j = 14)) ∨ (14 ≤ k ∧ k ≤ 24 ∧ j = ns + 1) ∨ (k = 25 ∧ j = t)) v w := by
      rw [hv]
      intro k j hp
      refine ⟨?_, rfl⟩
      repeat rw [gi_si1 (by omega)]
    refine ⟨_, rfl, ?_, ?_, ⟨?_, ?_, ?_, ?_, ?_, ?_, ?_, ?_, ?_, ?_, ?_, ?_⟩, OFF.tr (OFF.si (Or.inl ⟨rfl, Or.inr rfl⟩)) hO⟩
    · rw [gi_si1 (by omega), hv]
      repeat rw [gi_si1 (by omega)]
      rw [gi_si0]
    · rw [gi_si0, hx]
      congr 1
      rw [hv]
      repeat rw [gi_si1 (by omega)]
    all_goals
      rw [gi_si1 (by omega), hv]
      repeat first | rw [gi_si0] | rw [gi_si1 (by omega)]
  by_cases q : a3 = 3
  · rw [if_pos q]
    exact hlast 1 _ rfl (if_pos q)
  · rw [if_neg q]
    exact hlast 0 _ rfl (if_neg q)
theorem dst_len {f : Nat → Nat} : ∀ (n : Nat) (L : List Nat), (∀ z ∈ L, z < n) → DST f L → L.length ≤ n := by
  intro n L h hD
  have hnd : L.Nodup := by
    clear h
    induction L with
    | nil => exact List.nodup_nil
    | cons y L ih =>
      refine List.nodup_cons.mpr ⟨fun hy => (hD.1 y hy).1 rfl, ih hD.2⟩
  have hsub : L ⊆ List.range n := fun z hz => List.mem_range.mpr (h z hz)
  have := hnd.length_le_of_subset hsub
  rw [List.length_range] at this
  exact this
/-- upd: a SCOPE's symbols with one more -/
def upS (SL : Nat → List Nat) (s ns : Nat) : Nat → List Nat := fun j => if j = s then ns :: SL s else SL j
def upF (f : Nat → Nat) (ns x : Nat) : Nat → Nat := fun j => if j = ns then x else f j
section SC
variable {f : Nat → Nat} {SL : Nat → List Nat} {stk : List Nat} {nsc ns s : Nat} {w : Wd}
/-- whether the innermost SCOPE has it -/
theorem in_lk {x : Nat} (h : CSC f SL (s :: stk) nsc ns 0 w) : fnd f x (SL s) ≠ 0 ↔ (lk f SL x (s :: stk) ≠ 0 ∧ rgi w 29 4104 (Int32.ofNat (lk f SL x (s :: stk))) = Int32.ofNat (s + 1)) := by
  have hns := lk_le h (x := x)
  have hg := h.2.2.2.2.2.1
  have hn41 := h.2.2.2.2.2.2.2
  have hsl := h.2.1
  by_cases q : fnd f x (SL s) = 0
  · constructor
    · intro h1; exact absurd q h1
    · rintro ⟨h1, h2⟩
      exfalso
      have hlk : lk f SL x (s :: stk) = lk f SL x stk := if_pos q
      rw [hlk] at h1 h2 hns
      have : ∀ r : List Nat, (∀ y ∈ r, y ≠ s ∧ y < nsc) → lk f SL x r ≠ 0 → ∃ y, y ∈ r ∧ rgi w 29 4104 (Int32.ofNat (lk f SL x r)) = Int32.ofNat (y + 1) := by
        intro r
        induction r with
        | nil => exact fun _ h => absurd rfl h
        | cons y r ih =>
          intro hr hne
          unfold lk at hne ⊢
          by_cases qy : fnd f x (SL y) = 0
          · rw [if_pos qy] at hne ⊢
            obtain ⟨y', a, b⟩ := ih (fun q hq => hr q (List.mem_cons_of_mem _ hq)) hne
            exact ⟨y', List.mem_cons_of_mem _ a, b⟩
          · rw [if_neg qy] at hne ⊢
            obtain ⟨a, b⟩ := fnd_in qy
            obtain ⟨c1, c2, c3⟩ := (hg y).2.2 _ a
            refine ⟨y, List.mem_cons_self, ?_⟩
            rw [rgi_iN (by omega) (by omega)]
            have : fnd f x (SL y) - 1 + 1 = fnd f x (SL y) := by omega
            rw [← this]
            exact c3
      have hall : ∀ r : List Nat, SHD f SL nsc w r → ∀ y ∈ r, y < nsc := by
        intro r
        induction r with
        | nil => exact fun _ s hs => absurd hs (by simp)
        | cons s r ih =>
          intro hr y hy
          rcases List.mem_cons.mp hy with rfl | hy
          · exact hr.2.2.1
          · exact ih hr.2.2.2.2 y hy
      obtain ⟨_, _, hs1, hs2, hs3⟩ := hsl
      obtain ⟨y, y1, y2⟩ := this stk (fun y hy => ⟨fun h => hs2 (h ▸ hy), hall stk hs3 y hy⟩) h1
      rw [h2] at y2
      have hy := hall stk hs3 y y1
      have := (eq_iN (a := s + 1) (b := y + 1) (by omega) (by omega)).mp y2
      exact hs2 (by rw [show s = y by omega]; exact y1)
  · refine ⟨fun _ => ?_, fun _ => q⟩
    have hlk : lk f SL x (s :: stk) = fnd f x (SL s) := if_neg q
    rw [hlk]
    obtain ⟨a, b⟩ := fnd_in q
    obtain ⟨c1, c2, c3⟩ := (hg s).2.2 _ a
    refine ⟨q, ?_⟩
    rw [rgi_iN (by omega) (by omega)]
    have : fnd f x (SL s) - 1 + 1 = fnd f x (SL s) := by omega
    rw [← this]
    exact c3
/-- the class puts a symbol into its SCOPE -/
theorem a_put {x : Nat} (h : CSC f SL (s :: stk) nsc ns 0 w) (hx : x < 8192) (hn : ns < 4100) {w' : Wd} (h22 : gi w' 22 (ns + 1) = Int32.ofNat x) (hO : OFF (fun k j => (k = 13 ∧ (j = 12 ∨ j = 14)) ∨ (14 ≤ k ∧ k ≤ 24 ∧ j = ns + 1) ∨ k = 25) w' w) :
    ∃ u, fX7_add (Int32.ofNat (ns + 1)) w' = (decide (fnd f x (SL s) = 0), u) ∧ CSC (upF f ns x) (if fnd f x (SL s) = 0 then upS SL s ns else SL) (s :: stk) nsc (ns + 1) 0 u ∧ OFF (fun k j => (k = 27 ∧ j = x) ∨ (28 ≤ k ∧ k ≤ 30 ∧ j = ns + 1) ∨ (k = 31 ∧ j = s + 1)) u w' := by
  have hin := in_lk h (x := x)
  have hlk9 := lk_le h (x := x)
  have hfu : ∀ s' : Nat, ∀ i ∈ SL s', upF f ns x i = f i := fun s' i hi => if_neg (by have := ((h.2.2.2.2.2.1 s').2.2 i hi).1; omega)
  obtain ⟨a, b, ⟨c1, c2, c3⟩, d, e, g, i, j1, j2⟩ := h
  have q9 : ∀ k j, (k = 26 ∨ 27 ≤ k) → gi w' k j = gi w k j := fun k j hk => (hO k j (by omega)).1
  have hname : fX8_name (Int32.ofNat (ns + 1)) w' = Int32.ofNat x := by
    unfold fX8_name
    rw [ltq, rgi_iN (by omega) (by omega)]
    exact h22
  have hh : rgi w' 27 8192 (Int32.ofNat x) = Int32.ofNat (lk f SL x (s :: stk)) := by
    rw [rgi_iN (by omega) (by omega), q9 27 _ (by omega)]
    exact a x hx
  have h29 : rgi w' 29 4104 (Int32.ofNat (lk f SL x (s :: stk))) = rgi w 29 4104 (Int32.ofNat (lk f SL x (s :: stk))) := by
    rw [rgi_iN (by omega) (by omega), rgi_iN (by omega) (by omega), q9 29 _ (by omega)]
  have hdst : ∀ L : List Nat, (∀ y ∈ L, upF f ns x y = f y) → DST f L → DST (upF f ns x) L := by
    intro L
    induction L with
    | nil => exact fun _ _ => trivial
    | cons y L ih =>
      intro hL hD
      refine ⟨fun z hz => ?_, ih (fun z hz => hL z (List.mem_cons_of_mem _ hz)) hD.2⟩
      rw [hL z (List.mem_cons_of_mem _ hz), hL y List.mem_cons_self]
      exact hD.1 z hz
  have hshd : ∀ (u : Wd) (SL' : Nat → List Nat) (r : List Nat), (∀ y ∈ r, SL' y = SL y) → (∀ y ∈ r, (∀ i ∈ SL y, gi u 28 (i + 1) = gi w 28 (i + 1)) ∧ gi u 32 (y + 1) = gi w 32 (y + 1)) → SHD f SL nsc w r → SHD (upF f ns x) SL' nsc u r := by
    intro u SL' r
    induction r with
    | nil => exact fun _ _ _ => trivial
    | cons y r ih =>
      intro hS hA hr
      obtain ⟨r1, r2, r3, r4, r5⟩ := hr
      obtain ⟨p, q⟩ := hA y List.mem_cons_self
      have hSr : ∀ z ∈ r, SL' z = SL z := fun z hz => hS z (List.mem_cons_of_mem _ hz)
      refine ⟨fun i hi => ?_, q.trans r2, r3, r4, ih hSr (fun z hz => hA z (List.mem_cons_of_mem _ hz)) r5⟩
      rw [hS y List.mem_cons_self] at hi
      rw [p i hi, r1 i hi, hfu y i hi, lk_up hSr, lk_f (fun s' _ => hfu s')]
  -- it is put in
  have hyes : fnd f x (SL s) = 0 → ∃ u, fX7_add_37 (Int32.ofNat (ns + 1)) w' = (true, u) ∧ CSC (upF f ns x) (upS SL s ns) (s :: stk) nsc (ns + 1) 0 u ∧ OFF (fun k j => (k = 27 ∧ j = x) ∨ (28 ≤ k ∧ k ≤ 30 ∧ j = ns + 1) ∨ (k = 31 ∧ j = s + 1)) u w' := by
    intro q0
    obtain ⟨b1, b2, b3, b4, b5⟩ := b
    have hlk0 : lk f SL x (s :: stk) = lk f SL x stk := if_pos q0
    have c2 : gi w 26 9 = Int32.ofNat (s + 1) := c2
    unfold fX7_add_37
    rw [q9 26 9 (by omega), c2, rsi_iN (n := ns + 1) (m := 4104) (by omega) (by omega), ltq]
    show ∃ u, (lt (rgi (si w' 29 (ns + 1) (Int32.ofNat (s + 1))) 31 4096 (gi (si w' 29 (ns + 1) (Int32.ofNat (s + 1))) 26 9)) _) = _ ∧ _
    rw [show gi (si w' 29 (ns + 1) (Int32.ofNat (s + 1))) 26 9 = Int32.ofNat (s + 1) by rw [gi_si1 (by omega), q9 26 9 (by omega)]; exact c2, rgi_iN (n := s + 1) (m := 4096) (by omega) (by omega), gi_si1 (by omega), q9 31 _ (by omega), ltq, rsi_iN (n := ns + 1) (m := 4104) (by omega) (by omega), ltq]
    rw [show gi (si (si w' 29 (ns + 1) (Int32.ofNat (s + 1))) 30 (ns + 1) (gi w 31 (s + 1))) 26 9 = Int32.ofNat (s + 1) by rw [gi_si1 (by omega), gi_si1 (by omega), q9 26 9 (by omega)]; exact c2, rsi_iN (n := s + 1) (m := 4096) (by omega) (by omega), ltq]
    have hO4 : OFF (fun k j => (k = 29 ∧ j = ns + 1) ∨ (k = 30 ∧ j = ns + 1) ∨ (k = 31 ∧ j = s + 1)) (si (si (si w' 29 (ns + 1) (Int32.ofNat (s + 1))) 30 (ns + 1) (gi w 31 (s + 1))) 31 (s + 1) (Int32.ofNat (ns + 1))) w' := OFF.tr (OFF.si (Or.inr (Or.inr ⟨rfl, rfl⟩))) (OFF.tr (OFF.si (Or.inr (Or.inl ⟨rfl, rfl⟩))) (OFF.si (Or.inl ⟨rfl, rfl⟩)))
    generalize hw4 : si (si (si w' 29 (ns + 1) (Int32.ofNat (s + 1))) 30 (ns + 1) (gi w 31 (s + 1))) 31 (s + 1) (Int32.ofNat (ns + 1)) = w4 at hO4
    have h4a : gi w4 29 (ns + 1) = Int32.ofNat (s + 1) ∧ gi w4 30 (ns + 1) = gi w 31 (s + 1) ∧ gi w4 31 (s + 1) = Int32.ofNat (ns + 1) := by
      rw [← hw4]
      refine ⟨?_, ?_, gi_si0 _ _ _ _⟩
      · rw [gi_si1 (by omega), gi_si1 (by omega), gi_si0]
      · rw [gi_si1 (by omega), gi_si0]
    have hshow : fX7_show (Int32.ofNat (ns + 1)) w4 = si (si w4 28 (ns + 1) (Int32.ofNat (lk f SL x (s :: stk)))) 27 x (Int32.ofNat (ns + 1)) := by
      unfold fX7_show
      have hn4 : fX8_name (Int32.ofNat (ns + 1)) w4 = Int32.ofNat x := by
        unfold fX8_name
        rw [ltq, rgi_iN (by omega) (by omega), (hO4 22 _ (by omega)).1]
        exact h22
      rw [ltq, hn4, ltq, rgi_iN (n := x) (m := 8192) hx (by omega), (hO4 27 _ (by omega)).1, q9 27 _ (by omega), a x hx, rsi_iN (n := ns + 1) (m := 4104) (by omega) (by omega), ltq, rsi_iN (n := x) (m := 8192) hx (by omega), ltq]
    rw [hshow, ltq]
    have hO5 : OFF (fun k j => (k = 28 ∧ j = ns + 1) ∨ (k = 27 ∧ j = x)) (si (si w4 28 (ns + 1) (Int32.ofNat (lk f SL x (s :: stk)))) 27 x (Int32.ofNat (ns + 1))) w4 := OFF.tr (OFF.si (Or.inr ⟨rfl, rfl⟩)) (OFF.si (Or.inl ⟨rfl, rfl⟩))
    have h5a : gi (si (si w4 28 (ns + 1) (Int32.ofNat (lk f SL x (s :: stk)))) 27 x (Int32.ofNat (ns + 1))) 28 (ns + 1) = Int32.ofNat (lk f SL x (s :: stk)) ∧ gi (si (si w4 28 (ns + 1) (Int32.ofNat (lk f SL x (s :: stk)))) 27 x (Int32.ofNat (ns + 1))) 27 x = Int32.ofNat (ns + 1) := ⟨by rw [gi_si1 (by omega), gi_si0], gi_si0 _ _ _ _⟩
    generalize si (si w4 28 (ns + 1) (Int32.ofNat (lk f SL x (s :: stk)))) 27 x (Int32.ofNat (ns + 1)) = w5 at hO5 h5a
    have hO54f : OFF (fun k j => (k = 27 ∧ j = x) ∨ (28 ≤ k ∧ k ≤ 30 ∧ j = ns + 1) ∨ (k = 31 ∧ j = s + 1)) w5 w' := OFF.tr (hO5.mono (fun k j hp => by omega)) (hO4.mono (fun k j hp => by omega))
    have hO54 : OFF (fun k j => 27 ≤ k ∧ k ≤ 31) w5 w' := OFF.tr (hO5.mono (fun k j hp => by omega)) (hO4.mono (fun k j hp => by omega))
    have hb3' : ∀ y ∈ stk, y ≠ s := fun y hy h => b4 (h ▸ hy)
    have hus : ∀ y, y ≠ s → upS SL s ns y = SL y := fun y hy => if_neg hy
    have huss : upS SL s ns s = ns :: SL s := if_pos rfl
    have hufn : upF f ns x ns = x := if_pos rfl
    have hlkr : ∀ y, lk (upF f ns x) (upS SL s ns) y stk = lk f SL y stk := fun y => by
      rw [lk_up (fun z hz => hus z (hb3' z hz)), lk_f (fun s' _ => hfu s')]
    have hfnd : ∀ y, fnd (upF f ns x) y (SL s) = fnd f y (SL s) := fun y => by
      have := lk_f (f := f) (f' := upF f ns x) (SL := SL) (x := y) (stk := [s]) (fun s' _ => hfu s')
      unfold lk at this
      unfold lk at this
      by_cases p1 : fnd (upF f ns x) y (SL s) = 0 <;> by_cases p2 : fnd f y (SL s) = 0
      · rw [p1, p2]
      · rw [if_pos p1, if_neg p2] at this; omega
      · rw [if_neg p1, if_pos p2] at this; omega
      · rw [if_neg p1, if_neg p2] at this; exact this
    refine ⟨w5, rfl, ⟨fun y hy => ?_, ⟨fun z hz => ?_, ?_, b3, b4, ?_⟩, ⟨?_, ?_, ?_⟩, fun y hy => ?_, fun y hy => ⟨?_, fun h4 => ?_⟩, fun y => ?_, fun y hy => ?_, by omega, j2⟩, hO54f⟩
    · show gi w5 27 y = Int32.ofNat (if fnd (upF f ns x) y (upS SL s ns s) = 0 then _ else fnd (upF f ns x) y (upS SL s ns s))
      rw [huss]
      have hf1 : fnd (upF f ns x) y (ns :: SL s) = if x = y then ns + 1 else fnd f y (SL s) := by
        show (if upF f ns x ns = y then ns + 1 else fnd (upF f ns x) y (SL s)) = _
        rw [hufn, hfnd]
      rw [hf1]
      by_cases qy : x = y
      · rw [if_pos qy, if_neg (by omega), ← qy]
        exact h5a.2
      · rw [if_neg qy, hlkr, (hO5 27 y (by omega)).1, (hO4 27 y (by omega)).1, q9 27 y (by omega), a y hy]
        rfl
    · rw [huss] at hz
      rcases List.mem_cons.mp hz with rfl | hz
      · rw [hufn, hlkr, h5a.1, hlk0]
      · have := (g s).2.2 z hz
        rw [hfu s z hz, hlkr, (hO5 28 _ (by omega)).1, (hO4 28 _ (by omega)).1, q9 28 _ (by omega)]
        exact b1 z hz
    · rw [(hO54 32 _ (by omega)).1, q9 32 _ (by omega)]; exact b2
    · refine hshd w5 _ stk (fun y hy => hus y (hb3' y hy)) (fun y hy => ⟨fun z hz => ?_, ?_⟩) b5
      · have := (g y).2.2 z hz
        rw [(hO5 28 _ (by omega)).1, (hO4 28 _ (by omega)).1, q9 28 _ (by omega)]
      · rw [(hO54 32 _ (by omega)).1, q9 32 _ (by omega)]
    · rw [(hO54 26 8 (by omega)).1, q9 26 8 (by omega)]; exact c1
    · rw [(hO54 26 9 (by omega)).1, q9 26 9 (by omega)]; exact c2
    · rw [(hO54 26 10 (by omega)).1, q9 26 10 (by omega)]; exact c3
    · have h30 : ∀ s', ∀ z ∈ SL s', gi w5 30 (z + 1) = gi w 30 (z + 1) := fun s' z hz => by
        have := (g s').2.2 z hz
        rw [(hO5 30 _ (by omega)).1, (hO4 30 _ (by omega)).1, q9 30 _ (by omega)]
      by_cases qy : y = s
      · rw [qy, huss, (hO5 31 _ (by omega)).1, h4a.2.2]
        refine ⟨rfl, ?_⟩
        rw [(hO5 30 _ (by omega)).1, h4a.2.1]
        exact (d s b3).agr (h30 s)
      · rw [hus y qy, (hO5 31 _ (by omega)).1, (hO4 31 _ (by omega)).1, q9 31 _ (by omega)]
        exact (d y hy).agr (h30 y)
    · rw [hus y (by omega)]; exact (e y hy).1
    · rw [(hO5 31 _ (by omega)).1, (hO4 31 _ (by omega)).1, q9 31 _ (by omega)]; exact (e y hy).2 h4
    · have h29' : ∀ z ∈ SL y, gi w5 29 (z + 1) = gi w 29 (z + 1) := fun z hz => by
        have := (g y).2.2 z hz
        rw [(hO5 29 _ (by omega)).1, (hO4 29 _ (by omega)).1, q9 29 _ (by omega)]
      by_cases qy : y = s
      · subst qy
        rw [huss]
        refine ⟨⟨fun z hz => ?_, hdst _ (hfu y) (g y).1⟩, ?_, fun z hz => ?_⟩
        · rw [hufn, hfu y z hz]
          exact ⟨fnd_0 q0 z hz, ((g y).2.2 z hz).1⟩
        · have : (SL y).length ≤ ns := by
            have : ∀ (n : Nat) (L : List Nat), (∀ z ∈ L, z < n) → DST f L → L.length ≤ n := dst_len
            exact this ns (SL y) (fun z hz => ((g y).2.2 z hz).1) (g y).1
          show (SL y).length + 1 ≤ 4100
          omega
        · rcases List.mem_cons.mp hz with rfl | hz
          · rw [hufn, (hO5 29 _ (by omega)).1]
            exact ⟨by omega, hx, h4a.1⟩
          · have := (g y).2.2 z hz
            rw [hfu y z hz, h29' z hz]
            exact ⟨by omega, this.2⟩
      · rw [hus y qy]
        refine ⟨hdst _ (hfu y) (g y).1, (g y).2.1, fun z hz => ?_⟩
        have := (g y).2.2 z hz
        rw [hfu y z hz, h29' z hz]
        exact ⟨by omega, this.2⟩
    · rw [(hO54 22 _ (by omega)).1]
      by_cases qy : y = ns
      · rw [qy, h22, hufn]
      · rw [(hO 22 _ (by omega)).1, i y (by omega)]
        show _ = Int32.ofNat (if y = ns then x else f y)
        rw [if_neg qy]
  have hno : fnd f x (SL s) ≠ 0 → CSC (upF f ns x) SL (s :: stk) nsc (ns + 1) 0 w' := by
    intro q0
    refine ⟨fun y hy => ?_, hshd w' SL (s :: stk) (fun _ _ => rfl) (fun y hy => ⟨fun z _ => q9 28 _ (by omega), q9 32 _ (by omega)⟩) b, ⟨by rw [q9 26 8 (by omega)]; exact c1, by rw [q9 26 9 (by omega)]; exact c2, by rw [q9 26 10 (by omega)]; exact c3⟩, fun y hy => ?_, fun y hy => ⟨(e y hy).1, fun h4 => by rw [q9 31 _ (by omega)]; exact (e y hy).2 h4⟩, fun y => ⟨hdst _ (hfu y) (g y).1, (g y).2.1, fun z hz => ?_⟩, fun y hy => ?_, by omega, j2⟩
    · rw [lk_f (fun s' _ => hfu s'), q9 27 _ (by omega)]; exact a y hy
    · rw [q9 31 _ (by omega)]
      exact (d y hy).agr (fun z _ => q9 30 _ (by omega))
    · have := (g y).2.2 z hz
      rw [hfu y z hz, q9 29 _ (by omega)]
      exact ⟨by omega, this.2⟩
    · by_cases qy : y = ns
      · rw [qy, h22]
        show _ = Int32.ofNat (if ns = ns then x else f ns)
        rw [if_pos rfl]
      · rw [(hO 22 _ (by omega)).1, i y (by omega)]
        show _ = Int32.ofNat (if y = ns then x else f y)
        rw [if_neg qy]
  unfold fX7_add
  rw [ltq, hname, ltq, hh]
  by_cases q0 : fnd f x (SL s) = 0
  · rw [if_pos q0]
    obtain ⟨u, u1, u2, u3⟩ := hyes q0
    refine ⟨u, ?_, u2, u3⟩
    rw [decide_eq_true q0]
    by_cases ql : Int32.ofNat (lk f SL x (s :: stk)) = 0
    · rw [if_pos ql]; exact u1
    · rw [if_neg ql, ltq, h29, q9 26 9 (by omega), c2]
      have hl0 : lk f SL x (s :: stk) ≠ 0 := fun h => ql (by rw [h]; rfl)
      show (if rgi w 29 4104 (Int32.ofNat (lk f SL x (s :: stk))) = Int32.ofNat (s + 1) then _ else _) = _
      rw [if_neg (fun h => (hin.mpr ⟨hl0, h⟩) q0)]
      exact u1
  · rw [if_neg q0]
    obtain ⟨p1, p2⟩ := hin.mp q0
    refine ⟨w', ?_, hno q0, OFF.rf⟩
    rw [decide_eq_false q0, if_neg (show ¬ (Int32.ofNat (lk f SL x (s :: stk)) = 0) from of_ne (k := 0) (by omega) (by omega) p1), ltq, h29, q9 26 9 (by omega), c2]
    exact if_pos p2
end SC
