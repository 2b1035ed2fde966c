/-! THE REFERENCE: bounds -/
section JT
variable {kd wr : Nat → Nat} {m : Nat} {sc : Int32} {d : Nat}
def lkP (an : Nat) : Option Nat → Nat → Nat → Prop
  | none, k, j => k = 10 ∧ j = an
  | some xl, k, j => k = 11 ∧ j = xl
def lkI : Option Nat → Int32
  | none => -1
  | some xl => Int32.ofNat xl
def lkS (u : Wd) (an x : Nat) : Option Nat → Prop
  | none => gi u 10 an = Int32.ofNat x
  | some xl => gi u 11 xl = Int32.ofNat x
def lkB (an nd : Nat) : Option Nat → Prop
  | none => an < nd
  | some xl => xl < nd
def PXB (nd an : Nat) (al : Option Nat) (k j : Nat) : Prop := PXN nd k j ∨ (k = 0 ∧ j = 29) ∨ lkP an al k j
def bdR (kd : Nat → Nat) (d r t : Nat) : Sum Nat Nat := sb (bdY kd d r t) fun e => if kd e = 46 then .inr (e + 1) else .inl e
/-- a link to x, then it goes on -/
theorem m_link {an x xl0 : Nat} {al : Option Nat} {w : Wd} {nd : Nat} (hx : lkB an nd al) (hn : nd ≤ 24000) {f : Wd → Option (Option Int32 × Wd)} (h0 : xl0 = 0) : (if 0 ≤ lkI al then (if inb (lkI al) 24000 = true then lt (si w 11 (Int32.toNatClampNeg (lkI al)) (Int32.ofNat x)) f else none) else (if inb (Int32.ofNat an) 24000 = true then lt (si w 10 (Int32.toNatClampNeg (Int32.ofNat an)) (Int32.ofNat x)) f else none)) = f (match al with | none => si w 10 an (Int32.ofNat x) | some xl => si w 11 xl (Int32.ofNat x)) := by
  cases al with
  | none =>
    have hx' : an < nd := hx
    show (if (0 : Int32) ≤ -1 then _ else _) = _
    rw [if_neg (by decide), if_pos (inb_iN (by omega) (by omega)), tc_iN (by omega)]
    rfl
  | some xl =>
    have hx' : xl < nd := hx
    show (if (0 : Int32) ≤ Int32.ofNat xl then (if inb (Int32.ofNat xl) 24000 = true then lt (si w 11 (Int32.toNatClampNeg (Int32.ofNat xl)) (Int32.ofNat x)) f else none) else _) = _
    rw [if_pos (zl_iN (by omega)), if_pos (inb_iN (by omega) (by omega)), tc_iN (by omega)]
    rfl
/-- with its link -/
def lkW (w : Wd) (an x : Nat) : Option Nat → Wd
  | none => si w 10 an (Int32.ofNat x)
  | some xl => si w 11 xl (Int32.ofNat x)
theorem lkW_off {w : Wd} {an x : Nat} {al : Option Nat} : OFF (lkP an al) (lkW w an x al) w := by
  cases al with
  | none => exact OFF.si ⟨rfl, rfl⟩
  | some xl => exact OFF.si ⟨rfl, rfl⟩
theorem lkW_set {w : Wd} {an x : Nat} {al : Option Nat} : lkS (lkW w an x al) an x al := by
  cases al with
  | none => exact gi_si0 _ _ _ _
  | some xl => exact gi_si0 _ _ _ _
theorem lkS.agr {u w : Wd} {an x : Nat} {al : Option Nat} (h : lkS w an x al) (hO : ∀ k j, lkP an al k j → gi u k j = gi w k j) : lkS u an x al := by
  cases al with
  | none => exact (hO 10 an ⟨rfl, rfl⟩).trans h
  | some xl => exact (hO 11 xl ⟨rfl, rfl⟩).trans h
theorem lkP_n {an nd k j : Nat} {al : Option Nat} (hb : lkB an nd al) (h : lkP an al k j) : (k = 10 ∨ k = 11) ∧ j < nd := by
  cases al with
  | none =>
    have hb' : an < nd := hb
    have h' : k = 10 ∧ j = an := h
    omega
  | some xl =>
    have hb' : xl < nd := hb
    have h' : k = 11 ∧ j = xl := h
    omega
theorem m_brS {k : Int32 → Int32 → Int32 → Int32 → Int32 → Int32 → Wd → Option (Option Int32 × Wd)} {a4 a5 a7 : Int32} {a an nd : Nat} {al : Option Nat} {w : Wd} (ha : a < 3) (hb : lkB an nd al) (hn : nd ≤ 24000) : fX12_arrays_95 k a4 a5 (Int32.ofNat an) a7 (Int32.ofNat a) (lkI al) w = be (RX12_variable 900 4 0 0 0 w) fun x4 w5 => be (fX12_expect 58 w5) fun _ w8 => be (RX12_variable 900 4 0 0 0 w8) fun x10 w11 => if inb x4 24000 = true then lt (si w11 11 (Int32.toNatClampNeg x4) x10) fun w14 => if 0 ≤ lkI al then (if inb (lkI al) 24000 = true then lt (si w14 11 (Int32.toNatClampNeg (lkI al)) x4) fun w17 => fX12_arrays_170 k a4 a5 (Int32.ofNat an) a7 (Int32.ofNat a) x10 w17 else none) else (if inb (Int32.ofNat an) 24000 = true then lt (si w14 10 (Int32.toNatClampNeg (Int32.ofNat an)) x4) fun w19 => fX12_arrays_170 k a4 a5 (Int32.ofNat an) a7 (Int32.ofNat a) x10 w19 else none) else none := by
  unfold fX12_arrays_95
  rw [if_neg (show ¬ (Int32.ofNat a = 3) from fun h => absurd ((eq_iN (a := a) (b := 3) (by omega) (by omega)).mp h) (by omega))]
def tlR (kd : Nat → Nat) (d r e2 : Nat) : Sum Nat Nat := if kd e2 = 40 ∧ r ≠ 0 then bdR kd d r (e2 + 1) else if kd e2 = 46 then .inr (e2 + 1) else .inl e2
def tlC (kd : Nat → Nat) (d r e2 : Nat) : Nat := if kd e2 = 40 ∧ r ≠ 0 then bdC kd d r (e2 + 1) else 0
/-- what comes behind a PAIR -/
def TRS (kd wr : Nat → Nat) (m : Nat) (sc : Int32) (d : Nat) (a4 a5 a7 : Int32) (an r a y : Nat) (u : Wd) (e2 : Nat) (R : Option (Option Int32 × Wd)) : Prop :=
  (∀ p, tlR kd d r e2 = .inl p → ∃ u', R = some (none, u') ∧ gi u' 0 9 = Int32.ofNat (wr p) ∧ OFF (PXB (y + 1) an (some y)) u' u) ∧
  (∀ e, tlR kd d r e2 = .inr e → ∃ n u' xs e0, R = oX12_arrays_213 FU a5 (Int32.ofNat an) (Int32.ofNat (a + 1 + tlC kd d r e2)) a4 u' ∧ SM kd wr m u' e (d - 1) ∧ gi u' 0 23 = Int32.ofNat (n + 1) ∧ y ≤ n ∧ n + 1 + e2 ≤ y + 1 + e ∧ (gi u' 0 29 = a7 ∧ gl u' 0 29 = gl u 0 29) ∧ OFF (PXB (y + 1) an (some y)) u' u ∧ e = e0 + 1 ∧ kd e0 = 46 ∧ xs.length = 2 * tlC kd d r e2 ∧ tlC kd d r e2 ≤ r ∧ e2 ≤ e0 ∧ ∀ fA, (kd e2 = 40 ∧ r ≠ 0 → FBD kd fA d r (e2 + 1)) → (xs = [] ∧ e0 = e2 ∧ n = y ∧ gi u' 11 y = gi u 11 y) ∨ (∃ v vs, xs = v :: vs ∧ kd e2 = 40 ∧ gi u' 11 y = Int32.ofNat v ∧ PRSX kd fA u' sc d xs (y + 1) (e2 + 1) e0 (n + 1)))
theorem bdR_S (r t : Nat) : bdR kd d (r + 1) t = sb (xw kd 41 d t) fun e1 => if kd e1 = 42 then sb (xw kd 41 d (e1 + 1)) (tlR kd d r) else .inl e1 := by
  unfold bdR
  rw [show bdY kd d (r + 1) t = sb (xw kd 41 d t) fun e1 => if kd e1 = 42 then sb (xw kd 41 d (e1 + 1)) fun e2 => if kd e2 = 40 ∧ r ≠ 0 then bdY kd d r (e2 + 1) else .inr e2 else .inl e1 from rfl]
  rcases xw kd 41 d t with p | e1
  · rfl
  · show sb (if kd e1 = 42 then _ else _) _ = (if kd e1 = 42 then _ else _)
    by_cases q : kd e1 = 42
    · rw [if_pos q, if_pos q]
      rcases xw kd 41 d (e1 + 1) with p | e2
      · rfl
      · show sb (if kd e2 = 40 ∧ r ≠ 0 then _ else _) _ = tlR kd d r e2
        unfold tlR
        by_cases q2 : kd e2 = 40 ∧ r ≠ 0
        · rw [if_pos q2, if_pos q2]
          rfl
        · rw [if_neg q2, if_neg q2]
          rfl
    · rw [if_neg q, if_neg q]
      rfl
theorem bdC_S {r t e1 e2 : Nat} (h1 : xw kd 41 d t = .inr e1) (h2 : xw kd 41 d (e1 + 1) = .inr e2) : bdC kd d (r + 1) t = tlC kd d r e2 + 1 := by
  rw [bdC_e h1 h2]
  unfold tlC
  by_cases q : kd e2 = 40 ∧ r ≠ 0
  · rw [if_pos q, if_pos q]
  · rw [if_neg q, if_neg q]
theorem PXB.up {nd nd' an xl : Nat} {al : Option Nat} (hn : nd ≤ nd') (hx : nd ≤ xl) : ∀ k j, PXB nd' an (some xl) k j → PXB nd an al k j := fun k j h => by
  unfold PXB PXN at *
  rcases h with h | h | h
  · exact Or.inl (by omega)
  · exact Or.inr (Or.inl h)
  · have h' : k = 11 ∧ j = xl := h
    exact Or.inl (Or.inr (by omega))
/-- a PAIR, and what comes behind -/
theorem m_brC {k : Int32 → Int32 → Int32 → Int32 → Int32 → Int32 → Wd → Option (Option Int32 × Wd)} {a4 a5 a7 : Int32} {an r a t nd : Nat} {al : Option Nat} {w : Wd} (hd40 : d ≤ 40) (ha : a < 3) (hI : INS kd wr m sc w t d nd) (hB : lkB an nd al) (htm : m ≤ 8193)
    (hT : ∀ u e2 y, SM kd wr m u e2 d → gi u 0 23 = Int32.ofNat (y + 1) → y + 1 ≤ 2 * e2 + 100 → gi u 0 29 = sc → TRS kd wr m sc d a4 a5 a7 an r a y u e2 (fX12_arrays_170 k a4 a5 (Int32.ofNat an) a7 (Int32.ofNat a) (Int32.ofNat y) u)) :
    (∀ p, bdR kd d (r + 1) t = .inl p → ∃ u, fX12_arrays_95 k a4 a5 (Int32.ofNat an) a7 (Int32.ofNat a) (lkI al) w = some (none, u) ∧ gi u 0 9 = Int32.ofNat (wr p) ∧ OFF (PXB nd an al) u w) ∧
    (∀ e, bdR kd d (r + 1) t = .inr e → ∃ n u x xs e0, fX12_arrays_95 k a4 a5 (Int32.ofNat an) a7 (Int32.ofNat a) (lkI al) w = oX12_arrays_213 FU a5 (Int32.ofNat an) (Int32.ofNat (a + bdC kd d (r + 1) t)) a4 u ∧ SM kd wr m u e (d - 1) ∧ gi u 0 23 = Int32.ofNat (n + 1) ∧ nd ≤ n ∧ n + 1 + t ≤ nd + e ∧ (gi u 0 29 = a7 ∧ gl u 0 29 = gl w 0 29) ∧ OFF (PXB nd an al) u w ∧ lkS u an x al ∧ e = e0 + 1 ∧ kd e0 = 46 ∧ (x :: xs).length = 2 * bdC kd d (r + 1) t ∧ 1 ≤ bdC kd d (r + 1) t ∧ bdC kd d (r + 1) t ≤ r + 1 ∧ t < e0 ∧ ∀ fA, FBD kd fA d (r + 1) t → PRSX kd fA u sc d (x :: xs) nd t e0 (n + 1)) := by
  have hI' := hI
  obtain ⟨i1, i2, i3, i4⟩ := hI
  have htm' := i1.2.1
  rw [m_brS ha hB (by omega)]
  obtain ⟨q1, q2⟩ := m_expr (sc := sc) hd40 w t nd hI'
  rcases h1 : xw kd 41 d t with p1 | e1
  · obtain ⟨u, u1, u2, u3⟩ := q1 p1 h1
    have hb : bdR kd d (r + 1) t = .inl p1 := by
      rw [bdR_S, h1]
      rfl
    rw [u1, hb]
    refine ⟨fun p hp => ⟨u, rfl, ?_, u3.mono fun k j hk => Or.inl hk⟩, fun e he => nomatch he⟩
    have : p1 = p := by injection hp
    rw [← this]; exact u2
  · obtain ⟨x, u, cn, v1, v2, v3, v4, v5, v6, v7, v8, v9, v10⟩ := q2 e1 h1
    have l1 := xw_lt _ _ _ _ h1
    have he1m := v2.2.1
    have hx24 : x < 24000 := by omega
    rw [v1, be_so]
    by_cases q42 : kd e1 = 42
    · rw [m_expect (x := 58) (k := 42) v2 hd40 rfl (by omega) q42, be_so]
      have s2 : SM kd wr m (si u 0 7 (Int32.ofNat (e1 + 1))) (e1 + 1) d := v2.goT (by have := v2.lt (by omega); omega)
      have hO2 : OFF (PXN nd) (si u 0 7 (Int32.ofNat (e1 + 1))) w := OFF.tr (OFF.si (by unfold PXN; omega)) v10
      have hI2 : INS kd wr m sc (si u 0 7 (Int32.ofNat (e1 + 1))) (e1 + 1) d (x + 1) := ⟨s2, by rw [gi_si1 (by omega)]; exact v3, by omega, by rw [gi_si1 (by omega), (v10 0 29 (by unfold PXN; omega)).1]; exact i4⟩
      obtain ⟨r1, r2⟩ := m_expr (sc := sc) hd40 _ (e1 + 1) (x + 1) hI2
      rcases h2 : xw kd 41 d (e1 + 1) with p2 | e2
      · obtain ⟨u', u1, u2, u3⟩ := r1 p2 h2
        have hb : bdR kd d (r + 1) t = .inl p2 := by
          rw [bdR_S, h1]
          show (if kd e1 = 42 then sb (xw kd 41 d (e1 + 1)) (tlR kd d r) else .inl e1) = _
          rw [if_pos q42, h2]
          rfl
        rw [u1, hb]
        refine ⟨fun p hp => ⟨u', rfl, ?_, ?_⟩, fun e he => nomatch he⟩
        · have : p2 = p := by injection hp
          rw [← this]; exact u2
        · exact (OFF.tr (u3.mono fun k j hk => by unfold PXN at *; omega) hO2).mono fun k j hk => Or.inl hk
      · obtain ⟨y, u3, cn2, g1, g2, g3, g4, g5, g6, g7, g8, g9, g10⟩ := r2 e2 h2
        have l2 := xw_lt _ _ _ _ h2
        have he2m := g2.2.1
        rw [g1, be_so, if_pos (inb_iN hx24 (by omega)), tc_iN (by omega), ltq, m_link (nd := nd) (xl0 := 0) hB (by omega) rfl]
        have elk : (match al with | none => si (si u3 11 x (Int32.ofNat y)) 10 an (Int32.ofNat x) | some xl => si (si u3 11 x (Int32.ofNat y)) 11 xl (Int32.ofNat x)) = lkW (si u3 11 x (Int32.ofNat y)) an x al := by
          cases al <;> rfl
        rw [elk]
        have hO3 : OFF (PXN nd) u3 w := OFF.tr (g10.mono fun k j hk => by unfold PXN at *; omega) hO2
        have hO4 : OFF (PXN nd) (si u3 11 x (Int32.ofNat y)) w := OFF.tr (OFF.si (by unfold PXN; omega)) hO3
        have hlk := lkW_off (w := si u3 11 x (Int32.ofNat y)) (an := an) (x := x) (al := al)
        have hlkS := lkW_set (w := si u3 11 x (Int32.ofNat y)) (an := an) (x := x) (al := al)
        generalize lkW (si u3 11 x (Int32.ofNat y)) an x al = u5 at hlk hlkS ⊢
        have hO5 : OFF (PXB nd an al) u5 w := OFF.tr (hlk.mono fun k j hk => Or.inr (Or.inr hk)) (hO4.mono fun k j hk => Or.inl hk)
        have hn5 : ∀ k j, nd ≤ j ∨ ¬ (k = 10 ∨ k = 11) → ¬ (k = 11 ∧ j = x) → gi u5 k j = gi u3 k j := fun k j h1' h2' => by
          rw [(hlk k j (fun hq => by have := lkP_n hB hq; omega)).1]
          exact gi_si1 h2'
        have h11x : gi u5 11 x = Int32.ofNat y := by
          rw [(hlk 11 x (fun hq => by have := lkP_n hB hq; omega)).1]
          exact gi_si0 _ _ _ _
        have s5 : SM kd wr m u5 e2 d := by
          have s4 : SM kd wr m (si u3 11 x (Int32.ofNat y)) e2 d := g2.si (by omega) (by omega)
          exact s4.ofP hlk (fun k j hk => by have := lkP_n hB hk; omega)
        have h23 : gi u5 0 23 = Int32.ofNat (y + 1) := (hn5 0 23 (by omega) (by omega)).trans g3
        have h29 : gi u5 0 29 = sc := by
          rw [hn5 0 29 (by omega) (by omega), (g10 0 29 (by unfold PXN; omega)).1, gi_si1 (by omega), (v10 0 29 (by unfold PXN; omega)).1]
          exact i4
        obtain ⟨t1, t2⟩ := hT u5 e2 y s5 h23 (by omega) h29
        have hup : ∀ k j, PXB (y + 1) an (some y) k j → PXB nd an al k j := PXB.up (by omega) (by omega)
        have hb : bdR kd d (r + 1) t = tlR kd d r e2 := by
          rw [bdR_S, h1]
          show (if kd e1 = 42 then sb (xw kd 41 d (e1 + 1)) (tlR kd d r) else .inl e1) = _
          rw [if_pos q42, h2]
          rfl
        rw [hb]
        refine ⟨fun p hp => ?_, fun e he => ?_⟩
        · obtain ⟨u', a1, a2, a3⟩ := t1 p hp
          exact ⟨u', a1, a2, OFF.tr (a3.mono hup) hO5⟩
        · obtain ⟨n, u', xs, e0, a1, a2, a3, a4', a5', a6, a7', a8, a9, a10, a11, a12, a13⟩ := t2 e he
          have hcb := bdC_S (r := r) h1 h2
          refine ⟨n, u', x, y :: xs, e0, ?_, a2, a3, by omega, by omega, ⟨a6.1, a6.2.trans (((hlk 0 29 (fun hq => by have := lkP_n hB hq; omega)).2).trans (hO4 0 29 (by unfold PXN; omega)).2)⟩, OFF.tr (a7'.mono hup) hO5, ?_, a8, a9, ?_, by omega, by omega, by omega, fun fA hf => ?_⟩
          · rw [a1, hcb]
            congr 2
            omega
          · exact hlkS.agr (fun k j hk => (a7' k j (fun hq => by
              have := lkP_n hB hk
              unfold PXB PXN at hq
              rcases hq with hq | hq | hq
              · omega
              · omega
              · have hq' : k = 11 ∧ j = y := hq
                omega)).1)
          · rw [List.length_cons, List.length_cons, a10, hcb]
            omega
          · obtain ⟨f1, f2⟩ := hf
            obtain ⟨f3, f4⟩ := f2 e1 h1
            -- what stays
            have hst : ∀ k j, nd ≤ j → j ≤ y → ¬ (k = 11 ∧ (j = x ∨ j = y)) → 7 ≤ k ∧ k ≤ 13 ∨ k = 45 → gi u' k j = gi u3 k j := fun k j h1' h2' h3' h4' => by
              rw [(a7' k j (fun hq => by
                unfold PXB PXN at hq
                rcases hq with hq | hq | hq
                · omega
                · omega
                · have hq' : k = 11 ∧ j = y := hq
                  omega)).1]
              exact hn5 k j (Or.inl h1') (by omega)
            have hx1 : XPR kd sc nd x d t e1 cn fA u' := ⟨f1, (PWR.agr 41 u' u _ _ _ _ _ _ v9).2 (fun k j hk hl hj => by
              have e1' := hst k j hl (by omega) (by omega) (by omega)
              rw [e1', (g10 k j (by unfold PXN; omega)).1]
              exact gi_si1 (by omega))⟩
            have hy1 : XPR kd sc (x + 1) y d (e1 + 1) e2 cn2 fA u' := ⟨f3, (PWR.agr 41 u' u3 _ _ _ _ _ _ g9).2 (fun k j hk hl hj => hst k j (by omega) (by omega) (by omega) (by omega))⟩
            have hx11 : gi u' 11 x = Int32.ofNat y := by
              rw [(a7' 11 x (fun hq => by
                unfold PXB PXN at hq
                rcases hq with hq | hq | hq
                · omega
                · omega
                · have hq' : 11 = 11 ∧ x = y := hq
                  omega)).1]
              exact h11x
            refine ⟨e1, e2, cn, cn2, hx1, q42, hy1, hx11, ?_⟩
            rcases a13 fA (f4 e2 h2) with ⟨b1, b2, b3, b4⟩ | ⟨v, vs, b1, b2, b3, b4⟩
            · rw [b1]
              refine ⟨b2, by rw [b3], ?_⟩
              rw [b4, hn5 11 y (Or.inl (by omega)) (by omega)]
              exact g8
            · rw [b1] at b4 ⊢
              exact ⟨b2, b3, b4⟩
    · have hb : bdR kd d (r + 1) t = .inl e1 := by
        rw [bdR_S, h1]
        show (if kd e1 = 42 then sb (xw kd 41 d (e1 + 1)) (tlR kd d r) else .inl e1) = _
        rw [if_neg q42]
      rw [m_expect_no (x := 58) (k := 42) v2 rfl (by omega) (Or.inr q42) (by omega), hb]
      refine ⟨fun p hp => ⟨_, rfl, ?_, OFF.tr (OFF.si (Or.inl (by unfold PXN; omega))) (v10.mono fun k j hk => Or.inl hk)⟩, fun e he => nomatch he⟩
      have : e1 = p := by injection hp
      rw [← this]; exact gi_si0 _ _ _ _
/-- PAIRS, at least one -/
theorem m_br {a4 a5 a7 : Int32} {an : Nat} (hd1 : 1 ≤ d) (hd40 : d ≤ 40) : ∀ (r fo a t nd : Nat) (al : Option Nat) (w : Wd), a + (r + 1) = 3 → INS kd wr m sc w t d nd → lkB an nd al →
    (∀ p, bdR kd d (r + 1) t = .inl p → ∃ u, oX12_arrays_95 (fo + r + 2) a4 a5 (Int32.ofNat an) a7 (Int32.ofNat a) (lkI al) w = some (none, u) ∧ gi u 0 9 = Int32.ofNat (wr p) ∧ OFF (PXB nd an al) u w) ∧
    (∀ e, bdR kd d (r + 1) t = .inr e → ∃ n u x xs e0, oX12_arrays_95 (fo + r + 2) a4 a5 (Int32.ofNat an) a7 (Int32.ofNat a) (lkI al) w = oX12_arrays_213 FU a5 (Int32.ofNat an) (Int32.ofNat (a + bdC kd d (r + 1) t)) a4 u ∧ SM kd wr m u e (d - 1) ∧ gi u 0 23 = Int32.ofNat (n + 1) ∧ nd ≤ n ∧ n + 1 + t ≤ nd + e ∧ (gi u 0 29 = a7 ∧ gl u 0 29 = gl w 0 29) ∧ OFF (PXB nd an al) u w ∧ lkS u an x al ∧ e = e0 + 1 ∧ kd e0 = 46 ∧ (x :: xs).length = 2 * bdC kd d (r + 1) t ∧ 1 ≤ bdC kd d (r + 1) t ∧ bdC kd d (r + 1) t ≤ r + 1 ∧ t < e0 ∧ ∀ fA, FBD kd fA d (r + 1) t → PRSX kd fA u sc d (x :: xs) nd t e0 (n + 1)) := by
  -- the end
  have hend : ∀ (r a y : Nat) (u : Wd) (e2 : Nat) (k : Int32 → Int32 → Int32 → Int32 → Int32 → Int32 → Wd → Option (Option Int32 × Wd)), kd e2 ≠ 40 → SM kd wr m u e2 d → gi u 0 23 = Int32.ofNat (y + 1) → TRS kd wr m sc d a4 a5 a7 an r a y u e2 (fX12_arrays_170 k a4 a5 (Int32.ofNat an) a7 (Int32.ofNat a) (Int32.ofNat y) u) := by
    intro r a y u e2 k hk hs h23
    have e : tlR kd d r e2 = if kd e2 = 46 then .inr (e2 + 1) else .inl e2 := if_neg (fun h => hk h.1)
    have ec : tlC kd d r e2 = 0 := if_neg (fun h => hk h.1)
    unfold TRS fX12_arrays_170
    rw [e, ec, ltq, m_skip_no hs (k := 40) (x := 44) rfl (by omega) hk, be_so, if_neg (show ¬ (false = true) by decide), ltq, ad1_iN a]
    have g8 : gi (si u 0 29 a7) 0 8 = Int32.ofNat d := by rw [gi_si1 (by omega)]; exact hs.2.2.2.2
    rw [g8, show Int32.ofNat d - 1 = Int32.ofNat (d - 1) from sub_iN (b := 1) hd1 (by omega), ltq]
    have s1 : SM kd wr m (si (si u 0 29 a7) 0 8 (Int32.ofNat (d - 1))) e2 (d - 1) := (hs.si (by omega) (by omega)).goD (by omega)
    have hO1 : OFF (PXB (y + 1) an (some y)) (si (si u 0 29 a7) 0 8 (Int32.ofNat (d - 1))) u := OFF.tr (OFF.si (Or.inl (by unfold PXN; omega))) (OFF.si (Or.inr (Or.inl ⟨rfl, rfl⟩)))
    by_cases q46 : kd e2 = 46
    · rw [if_pos q46, m_expect (x := 93) (k := 46) s1 (by omega) rfl (by omega) q46, be_so]
      refine ⟨(fun p hp => nomatch hp), fun e he => ?_⟩
      have he' : e2 + 1 = e := by injection he
      subst he'
      refine ⟨y, _, [], e2, rfl, s1.goT (by have := hs.lt (by omega); omega), ?_, Nat.le_refl _, by omega, ⟨?_, rfl⟩, OFF.tr (OFF.si (Or.inl (by unfold PXN; omega))) hO1, rfl, q46, rfl, Nat.zero_le _, Nat.le_refl _, fun fA _ => Or.inl ⟨rfl, rfl, rfl, ?_⟩⟩
      · rw [gi_si1 (by omega), gi_si1 (by omega), gi_si1 (by omega)]
        exact h23
      · rw [gi_si1 (by omega), gi_si1 (by omega), gi_si0]
      · rw [gi_si1 (by omega), gi_si1 (by omega), gi_si1 (by omega)]
    · rw [if_neg q46, m_expect_no (x := 93) (k := 46) s1 rfl (by omega) (Or.inr q46) (by omega)]
      refine ⟨fun p hp => ⟨_, rfl, ?_, OFF.tr (OFF.si (Or.inl (by unfold PXN; omega))) hO1⟩, fun e he => nomatch he⟩
      have : e2 = p := by injection hp
      rw [← this]; exact gi_si0 _ _ _ _
  intro r
  induction r with
  | zero =>
    intro fo a t nd al w ha hI hB
    have e95 : oX12_arrays_95 (fo + 0 + 2) a4 a5 (Int32.ofNat an) a7 (Int32.ofNat a) (lkI al) w = fX12_arrays_95 (oX12_arrays_95 (fo + 1)) a4 a5 (Int32.ofNat an) a7 (Int32.ofNat a) (lkI al) w := rfl
    rw [e95]
    refine m_brC hd40 (by omega) hI hB hI.1.1.1 (fun u e2 y hs h23 hy h29 => ?_)
    by_cases q40 : kd e2 = 40
    · have e : tlR kd d 0 e2 = .inl e2 := by
        unfold tlR
        rw [if_neg (fun h => h.2 rfl), if_neg (by omega)]
      unfold TRS
      rw [e]
      refine ⟨fun p hp => ?_, fun e he => nomatch he⟩
      have hp' : e2 = p := by injection hp
      subst hp'
      unfold fX12_arrays_170
      rw [ltq, m_skip hs hd40 (k := 40) (x := 44) rfl (by omega) q40, be_so, if_pos rfl, ad1_iN a]
      show ∃ u', fX12_arrays_95 (oX12_arrays_95 fo) a4 a5 (Int32.ofNat an) a7 (Int32.ofNat (a + 1)) (Int32.ofNat y) (si u 0 7 (Int32.ofNat (e2 + 1))) = _ ∧ _
      unfold fX12_arrays_95
      have g7 : gi (si u 0 7 (Int32.ofNat (e2 + 1))) 0 7 = Int32.ofNat (e2 + 1) := gi_si0 _ _ _ _
      have s1 : SM kd wr m (si (si u 0 7 (Int32.ofNat (e2 + 1))) 0 7 (Int32.ofNat e2)) e2 d := (hs.goT (t' := e2 + 1) (by have := hs.lt (by omega); omega)).goT hs.2.1
      rw [if_pos (show Int32.ofNat (a + 1) = 3 by rw [show a + 1 = 3 by omega]; rfl), g7, show Int32.ofNat (e2 + 1) - 1 = Int32.ofNat e2 by (rw [show (1 : Int32) = Int32.ofNat 1 from rfl, sub_iN (by omega) (by have := hs.2.1; have := hs.1.1; omega)]; rfl), ltq, m_bad s1]
      exact ⟨_, rfl, gi_si0 _ _ _ _, OFF.tr (OFF.si (Or.inl (by unfold PXN; omega))) (OFF.tr (OFF.si (Or.inl (by unfold PXN; omega))) (OFF.si (Or.inl (by unfold PXN; omega))))⟩
    · exact hend 0 a y u e2 _ q40 hs h23
  | succ r ih =>
    intro fo a t nd al w ha hI hB
    have e95 : oX12_arrays_95 (fo + (r + 1) + 2) a4 a5 (Int32.ofNat an) a7 (Int32.ofNat a) (lkI al) w = fX12_arrays_95 (oX12_arrays_95 (fo + r + 2)) a4 a5 (Int32.ofNat an) a7 (Int32.ofNat a) (lkI al) w := rfl
    rw [e95]
    refine m_brC hd40 (by omega) hI hB hI.1.1.1 (fun u e2 y hs h23 hy h29 => ?_)
    by_cases q40 : kd e2 = 40
    · have e : tlR kd d (r + 1) e2 = bdR kd d (r + 1) (e2 + 1) := if_pos ⟨q40, by omega⟩
      have ec : tlC kd d (r + 1) e2 = bdC kd d (r + 1) (e2 + 1) := if_pos ⟨q40, by omega⟩
      have s1 : SM kd wr m (si u 0 7 (Int32.ofNat (e2 + 1))) (e2 + 1) d := hs.goT (by have := hs.lt (by omega); omega)
      have hO1 : OFF (PXB (y + 1) an (some y)) (si u 0 7 (Int32.ofNat (e2 + 1))) u := OFF.si (Or.inl (by unfold PXN; omega))
      obtain ⟨z1, z2⟩ := ih fo (a + 1) (e2 + 1) (y + 1) (some y) (si u 0 7 (Int32.ofNat (e2 + 1))) (by omega) ⟨s1, by rw [gi_si1 (by omega)]; exact h23, by omega, by rw [gi_si1 (by omega)]; exact h29⟩ (show y < y + 1 by omega)
      unfold TRS
      rw [e, ec]
      have e170 : fX12_arrays_170 (oX12_arrays_95 (fo + r + 2)) a4 a5 (Int32.ofNat an) a7 (Int32.ofNat a) (Int32.ofNat y) u = oX12_arrays_95 (fo + r + 2) a4 a5 (Int32.ofNat an) a7 (Int32.ofNat (a + 1)) (lkI (some y)) (si u 0 7 (Int32.ofNat (e2 + 1))) := by
        unfold fX12_arrays_170
        rw [ltq, m_skip hs hd40 (k := 40) (x := 44) rfl (by omega) q40, be_so, if_pos rfl, ad1_iN a]
        rfl
      rw [e170]
      refine ⟨fun p hp => ?_, fun e' he => ?_⟩
      · obtain ⟨u', a1, a2, a3⟩ := z1 p hp
        exact ⟨u', a1, a2, OFF.tr a3 hO1⟩
      · obtain ⟨n, u', x', xs, e0, b1, b2, b3, b4, b5, b6, b7, b8, b9, b10, b11, b12, b13, b14, b15⟩ := z2 e' he
        exact ⟨n, u', x' :: xs, e0, b1, b2, b3, by omega, by omega, ⟨b6.1, b6.2⟩, OFF.tr b7 hO1, b9, b10, b11, by omega, by omega, fun fA hf => Or.inr ⟨x', xs, rfl, q40, b8, b15 fA (hf ⟨q40, by omega⟩)⟩⟩
    · exact hend (r + 1) a y u e2 _ q40 hs h23
end JT
