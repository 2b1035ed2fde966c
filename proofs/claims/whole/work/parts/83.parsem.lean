/-! THE REFERENCE GOES OVER EXPRS -/
def PN (nd k j : Nat) : Prop := (k = 0 ∧ j = 23) ∨ (7 ≤ k ∧ k ≤ 13 ∧ j = nd)
/-- what going over EXPRS changes; PXL: and where xl has its next -/
def PXN (nd k j : Nat) : Prop := (k = 0 ∧ (j = 7 ∨ j = 8 ∨ j = 9 ∨ j = 23)) ∨ ((7 ≤ k ∧ k ≤ 13 ∨ k = 45) ∧ nd ≤ j)
def PXL (nd xl k j : Nat) : Prop := PXN nd k j ∨ (k = 11 ∧ j = xl)
theorem PXN.le {nd nd' k j : Nat} (h : PXN nd' k j) (hn : nd ≤ nd') : PXN nd k j := by unfold PXN at *; omega
theorem PN.x {nd nd' k j : Nat} (h : PN nd' k j) (hn : nd ≤ nd') : PXN nd k j := by unfold PXN PN at *; omega
theorem AGR.of {nd lo n : Nat} {u w : Wd} (h : OFF (PXN nd) u w) (hn : n < nd) : AGR lo n u w := fun k j hk hj hn => (h k j (by unfold PXN; omega)).1
section RE
variable {kd wr : Nat → Nat} {m : Nat} {sc : Int32}
theorem SM.off {w u : Wd} {t d t' d' nd : Nat} (h : SM kd wr m w t d) (hO : OFF (PXN nd) u w) (ht : t' ≤ m) (hd : d' ≤ 41) (h7 : gi u 0 7 = Int32.ofNat t') (h8 : gi u 0 8 = Int32.ofNat d') : SM kd wr m u t' d' := by
  obtain ⟨⟨a1, a2, a3, a4, a5⟩, b, c, e, f⟩ := h
  exact ⟨⟨a1, a2, a3, a4, fun i hi => by rw [(hO 2 i (by unfold PXN; omega)).1, (hO 3 i (by unfold PXN; omega)).1]; exact a5 i hi⟩, ht, hd, h7, h8⟩
theorem nd_ok {w : Wd} {t d nd : Nat} {a1 a2 a3 a4 a5 : Int32} (h : SM kd wr m w t d) (hn : gi w 0 23 = Int32.ofNat nd) (hb : nd < 24000) : ∃ u, fX12_node a1 a2 a3 a4 a5 w = some (Int32.ofNat nd, u) ∧ SM kd wr m u t d ∧ gi u 0 23 = Int32.ofNat (nd + 1) ∧ gi u 7 nd = a1 ∧ gi u 8 nd = a2 ∧ gi u 9 nd = a3 ∧ gi u 10 nd = a4 ∧ gi u 11 nd = -1 ∧ gi u 12 nd = a5 ∧ gi u 13 nd = gi w 0 29 ∧ OFF (PN nd) u w := by
  have e1 : inb (Int32.ofNat nd) 24000 = true := inb_iN hb (by omega)
  unfold fX12_node
  rw [hn, if_pos e1]
  dsimp only [lt]
  rw [tc_iN (by omega)]
  rw [show gi (si w 7 nd a1) 0 23 = Int32.ofNat nd by rw [gi_si1 (by omega)]; exact hn, if_pos e1, tc_iN (by omega)]
  rw [show gi (si (si w 7 nd a1) 8 nd a2) 0 23 = Int32.ofNat nd by ((repeat rw [gi_si1 (by omega)]); exact hn), if_pos e1, tc_iN (by omega)]
  rw [show gi (si (si (si w 7 nd a1) 8 nd a2) 9 nd a3) 0 23 = Int32.ofNat nd by ((repeat rw [gi_si1 (by omega)]); exact hn), if_pos e1, tc_iN (by omega)]
  rw [show gi (si (si (si (si w 7 nd a1) 8 nd a2) 9 nd a3) 10 nd a4) 0 23 = Int32.ofNat nd by ((repeat rw [gi_si1 (by omega)]); exact hn), if_pos e1, tc_iN (by omega)]
  rw [show gi (si (si (si (si (si w 7 nd a1) 8 nd a2) 9 nd a3) 10 nd a4) 11 nd (-1)) 0 23 = Int32.ofNat nd by ((repeat rw [gi_si1 (by omega)]); exact hn), if_pos e1, tc_iN (by omega)]
  rw [show gi (si (si (si (si (si (si w 7 nd a1) 8 nd a2) 9 nd a3) 10 nd a4) 11 nd (-1)) 12 nd a5) 0 23 = Int32.ofNat nd by ((repeat rw [gi_si1 (by omega)]); exact hn), if_pos e1, tc_iN (by omega)]
  rw [show ∀ v, gi (si (si (si (si (si (si (si w 7 nd a1) 8 nd a2) 9 nd a3) 10 nd a4) 11 nd (-1)) 12 nd a5) 13 nd v) 0 23 = Int32.ofNat nd by (intro v; (repeat rw [gi_si1 (by omega)]); exact hn), gi_si0, ad1_iN, sb1_iN (by omega) (by omega)]
  refine ⟨_, rfl, ?_, gi_si0 _ _ _ _, ?_, ?_, ?_, ?_, ?_, ?_, ?_, fun k j hp => ?_⟩
  · repeat refine SM.si ?_ (by omega) (by omega)
    exact h
  all_goals try (repeat first | rw [gi_si0] | rw [gi_si1 (by omega)])
  refine ⟨?_, rfl⟩
  unfold PN at hp
  repeat rw [gi_si1 (by omega)]
/-- it throws -/
def RNO (wr : Nat → Nat) (res : Option (Option Int32 × Wd)) (w : Wd) (Q : Nat → Nat → Prop) (p : Nat) : Prop := ∃ u, res = some (none, u) ∧ gi u 0 9 = Int32.ofNat (wr p) ∧ OFF Q u w
/-- it goes to e, with a node -/
def RYS (kd wr : Nat → Nat) (m : Nat) (R : Wd → Nat → Nat → Nat → Prop) (res : Option (Option Int32 × Wd)) (w : Wd) (nd d t e : Nat) : Prop := ∃ n u cn, res = some (some (Int32.ofNat n), u) ∧ SM kd wr m u e d ∧ gi u 0 23 = Int32.ofNat (n + 1) ∧ nd ≤ n ∧ n + 1 + t ≤ nd + e ∧ (cn = 1 ∨ cn = 3) ∧ gi u 45 n = Int32.ofNat cn ∧ gi u 11 n = -1 ∧ R u nd n cn ∧ OFF (PXN nd) u w
theorem RNO.bad {w u : Wd} {t d nd : Nat} {Q : Nat → Nat → Prop} (h : SM kd wr m u t d) (hO : OFF (PXN nd) u w) (hQ : ∀ k j, PXN nd k j → Q k j) : RNO wr (some (none, si u 0 9 (Int32.ofNat (wr t)))) w Q t := by
  refine ⟨_, rfl, gi_si0 _ _ _ _, OFF.tr (OFF.si (hQ _ _ (Or.inl ⟨rfl, by omega⟩))) (hO.mono hQ)⟩
def INS (kd wr : Nat → Nat) (m : Nat) (sc : Int32) (w : Wd) (t d nd : Nat) : Prop := SM kd wr m w t d ∧ gi w 0 23 = Int32.ofNat nd ∧ nd ≤ 2 * t + 100 ∧ gi w 0 29 = sc
/-- what a function r of the reference is to what's gone over by f -/
def FUN (kd wr : Nat → Nat) (m : Nat) (sc : Int32) (d : Nat) (f : Nat → Sum Nat Nat) (R : Nat → Nat → Wd → Nat → Nat → Nat → Prop) (r : Wd → Option (Option Int32 × Wd)) : Prop := ∀ (w : Wd) (t nd : Nat), INS kd wr m sc w t d nd → (∀ p, f t = .inl p → RNO wr (r w) w (PXN nd) p) ∧ ∀ e, f t = .inr e → RYS kd wr m (R t e) (r w) w nd d t e
/-- too deep -/
def DEP (kd wr : Nat → Nat) (m : Nat) (r : Wd → Option (Option Int32 × Wd)) : Prop := ∀ (w : Wd) (t : Nat), SM kd wr m w t 41 → r w = some (none, si w 0 9 (Int32.ofNat (wr t)))
theorem be_no {α β : Type} {w : Wd} (f : α → Wd → Option (Option β × Wd)) : be (some (none, w)) f = some (none, w) := rfl
theorem be_so {α β : Type} {w : Wd} {x : α} (f : α → Wd → Option (Option β × Wd)) : be (some (some x, w)) f = f x w := rfl
theorem bn2_so {α β γ : Type} {x : α} {y : β} (f : α → β → Option γ) : bn2 (some (x, y)) f = f x y := rfl
theorem idx_lp {rc : TX12_variable} {k d : Nat} {tk : Int32} (hd : d + 1 ≤ 40) (hE : FUN kd wr m sc (d + 1) (xw kd k (d + 1)) (fun t e u lo n cn => PWR kd u sc k lo n (d + 1) t e cn) (rc 4 0 0 0)) : ∀ (n f : Nat) (w : Wd) (s nd x0 xl many : Nat), INS kd wr m sc w s (d + 1) nd → x0 < nd → xl < nd → 9000 ≤ s + n → many ≤ s →
   (∀ p, rw_ kd (xw kd k (d + 1)) n s = .inl p → RNO wr (oX12_indices_23 rc (f + n) tk (Int32.ofNat x0) (Int32.ofNat xl) (Int32.ofNat many) w) w (PXL nd xl) p)
   ∧ ∀ e1, rw_ kd (xw kd k (d + 1)) n s = .inr e1 → (kd e1 ≠ 46 → RNO wr (oX12_indices_23 rc (f + n) tk (Int32.ofNat x0) (Int32.ofNat xl) (Int32.ofNat many) w) w (PXL nd xl) e1) ∧ (kd e1 = 46 → ∃ xs u nn, oX12_indices_23 rc (f + n) tk (Int32.ofNat x0) (Int32.ofNat xl) (Int32.ofNat many) w = some (some (Int32.ofNat nn), u) ∧ SM kd wr m u (e1 + 1) d ∧ gi u 0 23 = Int32.ofNat (nn + 1) ∧ nn + 1 + s ≤ nd + (e1 + 1) ∧ gi u 7 nn = 4 ∧ gi u 8 nn = Int32.ofNat x0 ∧ gi u 9 nn = Int32.ofNat (many + xs.length) ∧ gi u 11 nn = -1 ∧ gi u 12 nn = tk ∧ gi u 13 nn = sc ∧ xs ≠ [] ∧ gi u 11 xl = Int32.ofNat (xs.headD 0) ∧ rowR kd u (PWR kd u sc k) xs nd (d + 1) s e1 ∧ (∀ x ∈ xs, nd ≤ x ∧ x < nn) ∧ OFF (PXL nd xl) u w) := by
  intro n
  induction n with
  | zero =>
    intro f w s nd x0 xl many h hx0 hxl hn hm
    have := h.1.2.1
    have := h.1.1.1
    omega
  | succ n ih =>
    intro f w s nd x0 xl many h hx0 hxl hn hm
    obtain ⟨g1, g2⟩ := hE w s nd h
    rw [← Nat.add_assoc]
    have hst : oX12_indices_23 rc (f + n + 1) tk (Int32.ofNat x0) (Int32.ofNat xl) (Int32.ofNat many) w = fX12_indices_23 rc (oX12_indices_23 rc (f + n)) tk (Int32.ofNat x0) (Int32.ofNat xl) (Int32.ofNat many) w := rfl
    rw [hst]
    unfold fX12_indices_23
    unfold rw_
    rcases hx : xw kd k (d + 1) s with p | e
    · refine ⟨fun p' h' => ?_, (fun e1 h' => nomatch h')⟩
      injection h' with h'
      subst h'
      obtain ⟨u, u1, u2, u3⟩ := g1 p hx
      rw [u1, be_no]
      exact ⟨u, rfl, u2, u3.mono (fun _ _ => Or.inl)⟩
    · obtain ⟨n1, u1, cn, r1, r2, r3, r4, r5, r6, r7, r8, r9, r10⟩ := g2 e hx
      rw [r1, be_so]
      have hz : (0 : Int32) ≤ Int32.ofNat x0 := zl_iN (by have := h.2.2.1; have := h.1.2.1; have := h.1.1.1; omega)
      have hbd : nd ≤ 16486 := by have := h.2.2.1; have := h.1.2.1; have := h.1.1.1; omega
      have hnd := h.2.2.1
      have hlt := xw_lt k _ _ _ hx
      have hem : e ≤ m := r2.2.1
      have hmm : m ≤ 8193 := r2.1.1
      rw [if_pos hz, if_pos (inb_iN (by omega) (by omega)), tc_iN (by omega)]
      dsimp only [lt]
      unfold fX12_indices_48
      dsimp only [lt]
      rw [ad1_iN]
      have hS : SM kd wr m (si u1 11 xl (Int32.ofNat n1)) e (d + 1) := r2.si (by omega) (by omega)
      have hO1 : OFF (PXL nd xl) (si u1 11 xl (Int32.ofNat n1)) w := OFF.tr (OFF.si (Or.inr ⟨rfl, rfl⟩)) (r10.mono (fun _ _ => Or.inl))
      by_cases q : kd e = 40
      · rw [if_pos q]
        rw [m_skip hS hd (k := 40) (x := 44) rfl (by omega) q, be_so, if_pos rfl]
        have hS2 : SM kd wr m (si (si u1 11 xl (Int32.ofNat n1)) 0 7 (Int32.ofNat (e + 1))) (e + 1) (d + 1) := hS.goT (by
          by_cases q9 : e = m
          · have := hS.1.2.1; rw [← q9] at this; omega
          · omega)
        have hI : INS kd wr m sc (si (si u1 11 xl (Int32.ofNat n1)) 0 7 (Int32.ofNat (e + 1))) (e + 1) (d + 1) (n1 + 1) := ⟨hS2, by rw [gi_si1 (by omega), gi_si1 (by omega)]; exact r3, by have := h.2.2.1; omega, by rw [gi_si1 (by omega), gi_si1 (by omega), (r10 0 29 (by unfold PXN; omega)).1]; exact h.2.2.2⟩
        obtain ⟨i1, i2⟩ := ih f _ (e + 1) (n1 + 1) x0 n1 (many + 1) hI (by omega) (by omega) (by omega) (by omega)
        have hO2 : OFF (PXL nd xl) (si (si u1 11 xl (Int32.ofNat n1)) 0 7 (Int32.ofNat (e + 1))) w := OFF.tr (OFF.si (Or.inl (Or.inl ⟨rfl, by omega⟩))) hO1
        have hPL : ∀ a b, PXL (n1 + 1) n1 a b → PXL nd xl a b := fun a b hp => by unfold PXL PXN at *; omega
        refine ⟨fun p hp => ?_, fun e1 he1 => ⟨fun hk => ?_, fun hk => ?_⟩⟩
        · obtain ⟨u, v1, v2, v3⟩ := i1 p hp
          exact ⟨u, v1, v2, (v3.mono hPL).tr hO2⟩
        · obtain ⟨u, v1, v2, v3⟩ := (i2 e1 he1).1 hk
          exact ⟨u, v1, v2, (v3.mono hPL).tr hO2⟩
        · obtain ⟨xs, u, nn, v1, v2, v3, v4, v5, v6, v7, v8, v9, v10, v11, v12, v13, v14, v15⟩ := (i2 e1 he1).2 hk
          have hagr : AGR nd n1 u u1 := fun k' j hk' hj hjn => by
            rw [(v15 k' j (by unfold PXL PXN; omega)).1, gi_si1 (by omega), gi_si1 (by omega)]
          refine ⟨n1 :: xs, u, nn, v1, v2, v3, by omega, v5, v6, ?_, v8, v9, v10, by simp, ?_, ?_, ?_, (v15.mono hPL).tr hO2⟩
          · rw [v7, List.length_cons, show many + 1 + xs.length = many + (xs.length + 1) by omega]
          · show gi u 11 xl = Int32.ofNat n1
            rw [(v15 11 xl (by unfold PXL PXN; omega)).1, gi_si1 (by omega), gi_si0]
          · cases xs with
            | nil => exact absurd rfl v11
            | cons y ys =>
              refine ⟨e, ⟨cn, (PWR.agr k u u1 _ _ _ _ _ _ r9).2 hagr⟩, q, v12, by omega, ?_, v13⟩
              have := v14 y List.mem_cons_self
              omega
          · intro x hx'
            rcases List.mem_cons.mp hx' with rfl | hx'
            · cases xs with
              | nil => exact absurd rfl v11
              | cons y ys =>
                have := v14 y List.mem_cons_self
                omega
            · have := v14 x hx'
              omega
      · rw [if_neg q]
        rw [m_skip_no hS (k := 40) (x := 44) rfl (by omega) q, be_so, if_neg (by decide)]
        have h8 : gi (si u1 11 xl (Int32.ofNat n1)) 0 8 = Int32.ofNat (d + 1) := hS.2.2.2.2
        rw [h8, sb1_iN (by omega) (by omega), show d + 1 - 1 = d by omega]
        have hS3 : SM kd wr m (si (si u1 11 xl (Int32.ofNat n1)) 0 8 (Int32.ofNat d)) e d := hS.goD (by omega)
        have hO3 : OFF (PXL nd xl) (si (si u1 11 xl (Int32.ofNat n1)) 0 8 (Int32.ofNat d)) w := OFF.tr (OFF.si (Or.inl (Or.inl ⟨rfl, by omega⟩))) hO1
        refine ⟨(fun p hp => nomatch hp), fun e1 he1 => ?_⟩
        injection he1 with he1
        subst he1
        refine ⟨fun hk => ?_, fun hk => ?_⟩
        · rw [m_expect_no hS3 (k := 46) (x := 93) rfl (by omega) (Or.inr hk) (by omega), be_no]
          exact ⟨_, rfl, gi_si0 _ _ _ _, OFF.tr (OFF.si (Or.inl (Or.inl ⟨rfl, by omega⟩))) hO3⟩
        · rw [m_expect hS3 (by omega) (k := 46) (x := 93) rfl (by omega) hk, be_so]
          have hS4 : SM kd wr m (si (si (si u1 11 xl (Int32.ofNat n1)) 0 8 (Int32.ofNat d)) 0 7 (Int32.ofNat (e + 1))) (e + 1) d := hS3.goT (by
            by_cases q9 : e = m
            · have := hS.1.2.1; rw [← q9] at this; omega
            · omega)
          have hc : gi (si (si (si u1 11 xl (Int32.ofNat n1)) 0 8 (Int32.ofNat d)) 0 7 (Int32.ofNat (e + 1))) 0 23 = Int32.ofNat (n1 + 1) := by
            rw [gi_si1 (by omega), gi_si1 (by omega), gi_si1 (by omega)]; exact r3
          obtain ⟨u, v1, v2, v3, v4, v5, v6, v7, v8, v9, v10, v11⟩ := nd_ok (a1 := 4) (a2 := Int32.ofNat x0) (a3 := Int32.ofNat (many + 1)) (a4 := 0) (a5 := tk) hS4 hc (by omega)
          rw [v1, bn2_so]
          have hagr : AGR nd n1 u u1 := fun k' j hk' hj hjn => by
            rw [(v11 k' j (by unfold PN; omega)).1, gi_si1 (by omega), gi_si1 (by omega), gi_si1 (by omega)]
          refine ⟨[n1], u, n1 + 1, rfl, v2, v3, by omega, v4, v5, v6, v8, v9, ?_, by simp, ?_, ?_, ?_, ?_⟩
          · rw [v10, gi_si1 (by omega), gi_si1 (by omega), gi_si1 (by omega), (r10 0 29 (by unfold PXN; omega)).1]; exact h.2.2.2
          · show gi u 11 xl = Int32.ofNat n1
            rw [(v11 11 xl (by unfold PN; omega)).1, gi_si1 (by omega), gi_si1 (by omega), gi_si0]
          · refine ⟨⟨cn, (PWR.agr k u u1 _ _ _ _ _ _ r9).2 hagr⟩, ?_⟩
            rw [(v11 11 n1 (by unfold PN; omega)).1, gi_si1 (by omega), gi_si1 (by omega), gi_si1 (by omega)]
            exact r8
          · intro x hx'
            rw [List.mem_singleton.mp hx']
            omega
          · exact OFF.tr (v11.mono (fun a b hp => by unfold PXL PXN; unfold PN at hp; omega)) (OFF.tr (OFF.si (Or.inl (Or.inl ⟨rfl, by omega⟩))) hO3)
theorem cal_lp {rc : TX12_variable} {k d : Nat} {tk : Int32} (hd : d + 1 ≤ 40) (hE : FUN kd wr m sc (d + 1) (xw kd k (d + 1)) (fun t e u lo n cn => PWR kd u sc k lo n (d + 1) t e cn) (rc 4 0 0 0)) : ∀ (n f : Nat) (w : Wd) (s nd x0 xl many : Nat), INS kd wr m sc w s (d + 1) nd → x0 < nd → xl < nd → 9000 ≤ s + n → many ≤ s →
   (∀ p, rw_ kd (xw kd k (d + 1)) n s = .inl p → RNO wr (oX12_call_28 rc (f + n) tk (Int32.ofNat x0) (Int32.ofNat xl) (Int32.ofNat many) w) w (PXL nd xl) p)
   ∧ ∀ e1, rw_ kd (xw kd k (d + 1)) n s = .inr e1 → (kd e1 ≠ 44 → RNO wr (oX12_call_28 rc (f + n) tk (Int32.ofNat x0) (Int32.ofNat xl) (Int32.ofNat many) w) w (PXL nd xl) e1) ∧ (kd e1 = 44 → ∃ xs u nn, oX12_call_28 rc (f + n) tk (Int32.ofNat x0) (Int32.ofNat xl) (Int32.ofNat many) w = some (some (Int32.ofNat nn), u) ∧ SM kd wr m u (e1 + 1) d ∧ gi u 0 23 = Int32.ofNat (nn + 1) ∧ nn + 1 + s ≤ nd + (e1 + 1) ∧ gi u 7 nn = 5 ∧ gi u 8 nn = Int32.ofNat x0 ∧ gi u 9 nn = Int32.ofNat (many + xs.length) ∧ gi u 11 nn = -1 ∧ gi u 12 nn = tk ∧ gi u 13 nn = sc ∧ xs ≠ [] ∧ gi u 11 xl = Int32.ofNat (xs.headD 0) ∧ rowR kd u (PWR kd u sc k) xs nd (d + 1) s e1 ∧ (∀ x ∈ xs, nd ≤ x ∧ x < nn) ∧ OFF (PXL nd xl) u w) := by
  intro n
  induction n with
  | zero =>
    intro f w s nd x0 xl many h hx0 hxl hn hm
    have := h.1.2.1
    have := h.1.1.1
    omega
  | succ n ih =>
    intro f w s nd x0 xl many h hx0 hxl hn hm
    obtain ⟨g1, g2⟩ := hE w s nd h
    rw [← Nat.add_assoc]
    have hst : oX12_call_28 rc (f + n + 1) tk (Int32.ofNat x0) (Int32.ofNat xl) (Int32.ofNat many) w = fX12_call_28 rc (oX12_call_28 rc (f + n)) tk (Int32.ofNat x0) (Int32.ofNat xl) (Int32.ofNat many) w := rfl
    rw [hst]
    unfold fX12_call_28
    unfold rw_
    rcases hx : xw kd k (d + 1) s with p | e
    · refine ⟨fun p' h' => ?_, (fun e1 h' => nomatch h')⟩
      injection h' with h'
      subst h'
      obtain ⟨u, u1, u2, u3⟩ := g1 p hx
      rw [u1, be_no]
      exact ⟨u, rfl, u2, u3.mono (fun _ _ => Or.inl)⟩
    · obtain ⟨n1, u1, cn, r1, r2, r3, r4, r5, r6, r7, r8, r9, r10⟩ := g2 e hx
      rw [r1, be_so]
      have hz : (0 : Int32) ≤ Int32.ofNat x0 := zl_iN (by have := h.2.2.1; have := h.1.2.1; have := h.1.1.1; omega)
      have hbd : nd ≤ 16486 := by have := h.2.2.1; have := h.1.2.1; have := h.1.1.1; omega
      have hnd := h.2.2.1
      have hlt := xw_lt k _ _ _ hx
      have hem : e ≤ m := r2.2.1
      have hmm : m ≤ 8193 := r2.1.1
      rw [if_pos hz, if_pos (inb_iN (by omega) (by omega)), tc_iN (by omega)]
      dsimp only [lt]
      unfold fX12_call_53
      dsimp only [lt]
      rw [ad1_iN]
      have hS : SM kd wr m (si u1 11 xl (Int32.ofNat n1)) e (d + 1) := r2.si (by omega) (by omega)
      have hO1 : OFF (PXL nd xl) (si u1 11 xl (Int32.ofNat n1)) w := OFF.tr (OFF.si (Or.inr ⟨rfl, rfl⟩)) (r10.mono (fun _ _ => Or.inl))
      by_cases q : kd e = 40
      · rw [if_pos q]
        rw [m_skip hS hd (k := 40) (x := 44) rfl (by omega) q, be_so, if_pos rfl]
        have hS2 : SM kd wr m (si (si u1 11 xl (Int32.ofNat n1)) 0 7 (Int32.ofNat (e + 1))) (e + 1) (d + 1) := hS.goT (by
          by_cases q9 : e = m
          · have := hS.1.2.1; rw [← q9] at this; omega
          · omega)
        have hI : INS kd wr m sc (si (si u1 11 xl (Int32.ofNat n1)) 0 7 (Int32.ofNat (e + 1))) (e + 1) (d + 1) (n1 + 1) := ⟨hS2, by rw [gi_si1 (by omega), gi_si1 (by omega)]; exact r3, by have := h.2.2.1; omega, by rw [gi_si1 (by omega), gi_si1 (by omega), (r10 0 29 (by unfold PXN; omega)).1]; exact h.2.2.2⟩
        obtain ⟨i1, i2⟩ := ih f _ (e + 1) (n1 + 1) x0 n1 (many + 1) hI (by omega) (by omega) (by omega) (by omega)
        have hO2 : OFF (PXL nd xl) (si (si u1 11 xl (Int32.ofNat n1)) 0 7 (Int32.ofNat (e + 1))) w := OFF.tr (OFF.si (Or.inl (Or.inl ⟨rfl, by omega⟩))) hO1
        have hPL : ∀ a b, PXL (n1 + 1) n1 a b → PXL nd xl a b := fun a b hp => by unfold PXL PXN at *; omega
        refine ⟨fun p hp => ?_, fun e1 he1 => ⟨fun hk => ?_, fun hk => ?_⟩⟩
        · obtain ⟨u, v1, v2, v3⟩ := i1 p hp
          exact ⟨u, v1, v2, (v3.mono hPL).tr hO2⟩
        · obtain ⟨u, v1, v2, v3⟩ := (i2 e1 he1).1 hk
          exact ⟨u, v1, v2, (v3.mono hPL).tr hO2⟩
        · obtain ⟨xs, u, nn, v1, v2, v3, v4, v5, v6, v7, v8, v9, v10, v11, v12, v13, v14, v15⟩ := (i2 e1 he1).2 hk
          have hagr : AGR nd n1 u u1 := fun k' j hk' hj hjn => by
            rw [(v15 k' j (by unfold PXL PXN; omega)).1, gi_si1 (by omega), gi_si1 (by omega)]
          refine ⟨n1 :: xs, u, nn, v1, v2, v3, by omega, v5, v6, ?_, v8, v9, v10, by simp, ?_, ?_, ?_, (v15.mono hPL).tr hO2⟩
          · rw [v7, List.length_cons, show many + 1 + xs.length = many + (xs.length + 1) by omega]
          · show gi u 11 xl = Int32.ofNat n1
            rw [(v15 11 xl (by unfold PXL PXN; omega)).1, gi_si1 (by omega), gi_si0]
          · cases xs with
            | nil => exact absurd rfl v11
            | cons y ys =>
              refine ⟨e, ⟨cn, (PWR.agr k u u1 _ _ _ _ _ _ r9).2 hagr⟩, q, v12, by omega, ?_, v13⟩
              have := v14 y List.mem_cons_self
              omega
          · intro x hx'
            rcases List.mem_cons.mp hx' with rfl | hx'
            · cases xs with
              | nil => exact absurd rfl v11
              | cons y ys =>
                have := v14 y List.mem_cons_self
                omega
            · have := v14 x hx'
              omega
      · rw [if_neg q]
        rw [m_skip_no hS (k := 40) (x := 44) rfl (by omega) q, be_so, if_neg (by decide)]
        have h8 : gi (si u1 11 xl (Int32.ofNat n1)) 0 8 = Int32.ofNat (d + 1) := hS.2.2.2.2
        rw [h8, sb1_iN (by omega) (by omega), show d + 1 - 1 = d by omega]
        have hS3 : SM kd wr m (si (si u1 11 xl (Int32.ofNat n1)) 0 8 (Int32.ofNat d)) e d := hS.goD (by omega)
        have hO3 : OFF (PXL nd xl) (si (si u1 11 xl (Int32.ofNat n1)) 0 8 (Int32.ofNat d)) w := OFF.tr (OFF.si (Or.inl (Or.inl ⟨rfl, by omega⟩))) hO1
        refine ⟨(fun p hp => nomatch hp), fun e1 he1 => ?_⟩
        injection he1 with he1
        subst he1
        refine ⟨fun hk => ?_, fun hk => ?_⟩
        · rw [m_expect_no hS3 (k := 44) (x := 41) rfl (by omega) (Or.inr hk) (by omega), be_no]
          exact ⟨_, rfl, gi_si0 _ _ _ _, OFF.tr (OFF.si (Or.inl (Or.inl ⟨rfl, by omega⟩))) hO3⟩
        · rw [m_expect hS3 (by omega) (k := 44) (x := 41) rfl (by omega) hk, be_so]
          have hS4 : SM kd wr m (si (si (si u1 11 xl (Int32.ofNat n1)) 0 8 (Int32.ofNat d)) 0 7 (Int32.ofNat (e + 1))) (e + 1) d := hS3.goT (by
            by_cases q9 : e = m
            · have := hS.1.2.1; rw [← q9] at this; omega
            · omega)
          have hc : gi (si (si (si u1 11 xl (Int32.ofNat n1)) 0 8 (Int32.ofNat d)) 0 7 (Int32.ofNat (e + 1))) 0 23 = Int32.ofNat (n1 + 1) := by
            rw [gi_si1 (by omega), gi_si1 (by omega), gi_si1 (by omega)]; exact r3
          obtain ⟨u, v1, v2, v3, v4, v5, v6, v7, v8, v9, v10, v11⟩ := nd_ok (a1 := 5) (a2 := Int32.ofNat x0) (a3 := Int32.ofNat (many + 1)) (a4 := 0) (a5 := tk) hS4 hc (by omega)
          rw [v1, bn2_so]
          have hagr : AGR nd n1 u u1 := fun k' j hk' hj hjn => by
            rw [(v11 k' j (by unfold PN; omega)).1, gi_si1 (by omega), gi_si1 (by omega), gi_si1 (by omega)]
          refine ⟨[n1], u, n1 + 1, rfl, v2, v3, by omega, v4, v5, v6, v8, v9, ?_, by simp, ?_, ?_, ?_, ?_⟩
          · rw [v10, gi_si1 (by omega), gi_si1 (by omega), gi_si1 (by omega), (r10 0 29 (by unfold PXN; omega)).1]; exact h.2.2.2
          · show gi u 11 xl = Int32.ofNat n1
            rw [(v11 11 xl (by unfold PN; omega)).1, gi_si1 (by omega), gi_si1 (by omega), gi_si0]
          · refine ⟨⟨cn, (PWR.agr k u u1 _ _ _ _ _ _ r9).2 hagr⟩, ?_⟩
            rw [(v11 11 n1 (by unfold PN; omega)).1, gi_si1 (by omega), gi_si1 (by omega), gi_si1 (by omega)]
            exact r8
          · intro x hx'
            rw [List.mem_singleton.mp hx']
            omega
          · exact OFF.tr (v11.mono (fun a b hp => by unfold PXL PXN; unfold PN at hp; omega)) (OFF.tr (OFF.si (Or.inl (Or.inl ⟨rfl, by omega⟩))) hO3)
end RE
