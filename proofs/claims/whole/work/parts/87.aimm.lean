/-! AIMS: pure, and the reference's -/
section AM
variable (kd : Nat → Nat)
/-- an AIM, gone over -/
def amX : Nat → Nat → Nat → Sum Nat Nat
  | 0, _, t => .inl t
  | k + 1, d, t =>
    if kd t = 15 then (if 40 ≤ d then .inl (t + 1) else (match xw kd k (d + 1) (t + 1) with
      | .inl p => .inl p
      | .inr e1 => if kd e1 = 16 then (match amX k (d + 1) (e1 + 1) with
        | .inl p => .inl p
        | .inr e2 => if kd e2 = 17 then amX k (d + 1) (e2 + 1) else .inl e2) else .inl e1))
    else if kd t = 43 then (if 40 ≤ d then .inl (t + 1) else (match amX k (d + 1) (t + 1) with
      | .inl p => .inl p
      | .inr e => if kd e = 44 then .inr (e + 1) else .inl e))
    else if kd t = 2 then (if kd (t + 1) = 45 then (if 40 ≤ d then .inl (t + 2) else (match xw kd k (d + 1) (t + 2) with
      | .inl p => .inl p
      | .inr e => if kd e = 46 then .inr (e + 1) else .inl e)) else .inr (t + 1))
    else .inl t
variable (w : Wd)
/-- an AIM's nodes -/
def PAM (sc : Int32) : Nat → Nat → Nat → Nat → Nat → Nat → Prop
  | 0, _, _, _, _, _ => False
  | k + 1, lo, n, d, s, e => lo ≤ n ∧ gi w 12 n = Int32.ofNat s ∧ gi w 13 n = sc ∧
    ((kd s = 15 ∧ d ≤ 39 ∧ gi w 7 n = 8 ∧ ∃ c y z e1 e2 cc, gi w 8 n = Int32.ofNat c ∧ gi w 9 n = Int32.ofNat y ∧ gi w 10 n = Int32.ofNat z ∧ c < y ∧ y < z ∧ z < n ∧ PWR kd w sc k lo c (d + 1) (s + 1) e1 cc ∧ kd e1 = 16 ∧ PAM sc k (c + 1) y (d + 1) (e1 + 1) e2 ∧ kd e2 = 17 ∧ PAM sc k (y + 1) z (d + 1) (e2 + 1) e)
    ∨ (kd s = 43 ∧ d ≤ 39 ∧ gi w 7 n = 9 ∧ ∃ x e1, gi w 8 n = Int32.ofNat x ∧ x < n ∧ PAM sc k lo x (d + 1) (s + 1) e1 ∧ kd e1 = 44 ∧ e = e1 + 1)
    ∨ (kd s = 2 ∧ kd (s + 1) = 45 ∧ d ≤ 39 ∧ gi w 7 n = 4 ∧ gi w 9 n = 1 ∧ ∃ x e1 cx, gi w 8 n = Int32.ofNat x ∧ x < n ∧ PWR kd w sc k lo x (d + 1) (s + 2) e1 cx ∧ kd e1 = 46 ∧ e = e1 + 1)
    ∨ (kd s = 2 ∧ kd (s + 1) ≠ 45 ∧ gi w 7 n = 3 ∧ e = s + 1))
end AM
section RE
variable {kd wr : Nat → Nat} {m : Nat} {sc : Int32}
theorem amX_lt : ∀ k d t e : Nat, amX kd k d t = .inr e → t < e := by
  intro k
  induction k with
  | zero => exact fun d t e h => nomatch h
  | succ k ih =>
    intro d t e h
    unfold amX at h
    split at h
    · split at h
      · exact nomatch h
      · rcases h1 : xw kd k (d + 1) (t + 1) with p | e1
        · rw [h1] at h; exact nomatch h
        · rw [h1] at h
          dsimp only at h
          have := xw_lt _ _ _ _ h1
          split at h
          · rcases h2 : amX kd k (d + 1) (e1 + 1) with p | e2
            · rw [h2] at h; exact nomatch h
            · rw [h2] at h
              dsimp only at h
              have := ih _ _ _ h2
              split at h
              · have := ih _ _ _ h; omega
              · exact nomatch h
          · exact nomatch h
    · split at h
      · split at h
        · exact nomatch h
        · rcases h1 : amX kd k (d + 1) (t + 1) with p | e1
          · rw [h1] at h; exact nomatch h
          · rw [h1] at h
            dsimp only at h
            have := ih _ _ _ h1
            split at h
            · injection h with h; omega
            · exact nomatch h
      · split at h
        · split at h
          · split at h
            · exact nomatch h
            · rcases h1 : xw kd k (d + 1) (t + 2) with p | e1
              · rw [h1] at h; exact nomatch h
              · rw [h1] at h
                dsimp only at h
                have := xw_lt _ _ _ _ h1
                split at h
                · injection h with h; omega
                · exact nomatch h
          · injection h with h; omega
        · exact nomatch h
theorem PAM.agr : ∀ (k : Nat) (u w : Wd) (lo n d s e : Nat), PAM kd w sc k lo n d s e → lo ≤ n ∧ (AGR lo n u w → PAM kd u sc k lo n d s e) := by
  intro k
  induction k with
  | zero => exact fun _ _ _ _ _ _ _ h => h.elim
  | succ k ih =>
    intro u w lo n d s e h
    obtain ⟨h0, h1, h2, h3⟩ := h
    refine ⟨h0, fun hA => ?_⟩
    have g : ∀ k, (7 ≤ k ∧ k ≤ 13 ∨ k = 45) → k ≠ 11 → gi u k n = gi w k n := fun k hk hn => hA k n hk h0 (Or.inr ⟨rfl, hn⟩)
    unfold PAM
    rw [g 7 (by omega) (by omega), g 8 (by omega) (by omega), g 9 (by omega) (by omega), g 10 (by omega) (by omega), g 12 (by omega) (by omega), g 13 (by omega) (by omega)]
    refine ⟨h0, h1, h2, ?_⟩
    rcases h3 with ⟨a1, a2, a3, c, y, z, e1, e2, cc, b1, b2, b3, b4, b5, b6, b7, b8, b9, b10, b11⟩ | ⟨a1, a2, a3, x, e1, b1, b2, b3, b4⟩ | ⟨a1, a2, a3, a4, a5, x, e1, cx, b1, b2, b3, b4⟩ | h4
    · have l1 := PWR.agr k u w _ _ _ _ _ _ b7
      have l2 := ih u w _ _ _ _ _ b9
      have l3 := ih u w _ _ _ _ _ b11
      exact Or.inl ⟨a1, a2, a3, c, y, z, e1, e2, cc, b1, b2, b3, b4, b5, b6, l1.2 (hA.sub (Nat.le_refl _) (by omega)), b8, l2.2 (hA.sub (by have := l1.1; omega) (by omega)), b10, l3.2 (hA.sub (by have := l1.1; omega) (by omega))⟩
    · exact Or.inr (Or.inl ⟨a1, a2, a3, x, e1, b1, b2, (ih u w _ _ _ _ _ b3).2 (hA.sub (Nat.le_refl _) (by omega)), b4⟩)
    · exact Or.inr (Or.inr (Or.inl ⟨a1, a2, a3, a4, a5, x, e1, cx, b1, b2, (PWR.agr k u w _ _ _ _ _ _ b3).2 (hA.sub (Nat.le_refl _) (by omega)), b4⟩))
    · exact Or.inr (Or.inr (Or.inr h4))
/-- as RYS, of what has no number for what it can be -/
def RYA (kd wr : Nat → Nat) (m : Nat) (R : Wd → Nat → Nat → Prop) (res : Option (Option Int32 × Wd)) (w : Wd) (nd d t e : Nat) : Prop := ∃ n u, res = some (some (Int32.ofNat n), u) ∧ SM kd wr m u e d ∧ gi u 0 23 = Int32.ofNat (n + 1) ∧ nd ≤ n ∧ n + 1 + t ≤ nd + e ∧ gi u 11 n = -1 ∧ R u nd n ∧ OFF (PXN nd) u w
def FUNA (kd wr : Nat → Nat) (m : Nat) (sc : Int32) (d : Nat) (f : Nat → Sum Nat Nat) (R : Nat → Nat → Wd → Nat → Nat → Prop) (r : Wd → Option (Option Int32 × Wd)) : Prop := ∀ (w : Wd) (t nd : Nat), INS kd wr m sc w t d nd → (∀ p, f t = .inl p → RNO wr (r w) w (PXN nd) p) ∧ ∀ e, f t = .inr e → RYA kd wr m (R t e) (r w) w nd d t e
theorem dp_aim {rc : TX12_variable} : DEP kd wr m (fun w => fX12_aim rc w) := by
  intro w t h
  show fX12_aim rc w = _
  unfold fX12_aim
  dsimp only [lt]
  rw [m_kind h, bn2_so, m_kind h, bn2_so, m_taken_no h (Or.inl rfl), be_no, be_no, m_expect_no h (k := 2) (x := 285) rfl (by omega) (Or.inl rfl) (by omega), be_no, ite_self, ite_self]
/-- a node, and what it can be -/
theorem nm_ok {w w0 : Wd} {t d nd nl : Nat} {a1 a2 a3 a4 a5 v : Int32} (h : SM kd wr m w t d) (hn : gi w 0 23 = Int32.ofNat nd) (hb : nd < 24000) (hl : nl ≤ nd) (hO : OFF (PXN nl) w w0) (hs : gi w0 0 29 = sc) : ∃ u, (bn2 (fX12_node a1 a2 a3 a4 a5 w) fun x y => bn2 (fX12_may x v y) fun p q => some (some p, q)) = some (some (Int32.ofNat nd), u) ∧ SM kd wr m u t d ∧ gi u 0 23 = Int32.ofNat (nd + 1) ∧ gi u 7 nd = a1 ∧ gi u 8 nd = a2 ∧ gi u 9 nd = a3 ∧ gi u 10 nd = a4 ∧ gi u 11 nd = -1 ∧ gi u 12 nd = a5 ∧ gi u 13 nd = sc ∧ (∀ k j, (7 ≤ k ∧ k ≤ 13 ∨ k = 45) → j < nd → gi u k j = gi w k j) ∧ OFF (PXN nl) u w0 := by
  obtain ⟨u, v1, v2, v3, v4, v5, v6, v7, v8, v9, v10, v11⟩ := nd_ok (a1 := a1) (a2 := a2) (a3 := a3) (a4 := a4) (a5 := a5) h hn hb
  rw [v1, bn2_so, may_ok hb, bn2_so]
  refine ⟨_, rfl, v2.si (by omega) (by omega), by rw [gi_si1 (by omega)]; exact v3, by rw [gi_si1 (by omega)]; exact v4, by rw [gi_si1 (by omega)]; exact v5, by rw [gi_si1 (by omega)]; exact v6, by rw [gi_si1 (by omega)]; exact v7, by rw [gi_si1 (by omega)]; exact v8, by rw [gi_si1 (by omega)]; exact v9, by rw [gi_si1 (by omega), v10, (hO 0 29 (by unfold PXN; omega)).1]; exact hs, fun k j hk hj => by rw [gi_si1 (by omega), (v11 k j (by unfold PN; omega)).1], ?_⟩
  exact OFF.tr (OFF.si (Or.inr ⟨Or.inr rfl, hl⟩)) (OFF.tr (v11.mono (fun _ _ hp => hp.x hl)) hO)
theorem m_aim : ∀ k d F, d ≤ 40 → 41 ≤ k + d → 20 * (42 - d) + 14 ≤ F → FUNA kd wr m sc d (amX kd k d) (fun t e u lo n => PAM kd u sc k lo n d t e) (RX12_variable F 3 0 0 0) := by
  intro k
  induction k with
  | zero => intro d F hd hk; omega
  | succ k ih =>
    intro d F hd hk hF
    obtain ⟨g, rfl⟩ : ∃ g, F = g + 2 := ⟨F - 2, by omega⟩
    intro w t nd hI
    have hh := hI
    obtain ⟨hS, hn, hb, hs⟩ := hI
    have htm : t ≤ m := hS.2.1
    have hmm : m ≤ 8193 := hS.1.1
    have hE : d + 1 ≤ 40 → FUN kd wr m sc (d + 1) (xw kd k (d + 1)) (WRL kd sc k (d + 1)) (RX12_variable (g + 1) 4 0 0 0) := fun h => fun_id (m_whole k (d + 1) g h (by omega) (by omega)) (fun w => rfl)
    show (∀ p, amX kd (k + 1) d t = .inl p → RNO wr (fX12_aim (RX12_variable (g + 1)) w) w (PXN nd) p) ∧ (∀ e, amX kd (k + 1) d t = .inr e → RYA kd wr m _ (fX12_aim (RX12_variable (g + 1)) w) w nd d t e)
    unfold fX12_aim
    dsimp only [lt]
    rw [m_kind hS, bn2_so, m_kind hS, bn2_so]
    have hS1 : 2 ≤ kd t → SM kd wr m (si w 0 7 (Int32.ofNat (t + 1))) (t + 1) d := fun h => hS.goT (hS.lt h)
    have hO1 : OFF (PXN nd) (si w 0 7 (Int32.ofNat (t + 1))) w := OFF.si (Or.inl ⟨rfl, by omega⟩)
    have hO : OFF (PXN nd) (si (si w 0 7 (Int32.ofNat (t + 1))) 0 8 (Int32.ofNat (d + 1))) w := OFF.tr (OFF.si (Or.inl ⟨rfl, by omega⟩)) hO1
    have hII : ∀ {u : Wd} {t' n1 : Nat}, SM kd wr m u t' (d + 1) → gi u 0 23 = Int32.ofNat n1 → n1 ≤ 2 * t' + 100 → OFF (PXN nd) u w → INS kd wr m sc u t' (d + 1) n1 := fun h1 h2 h3 h4 => ⟨h1, h2, h3, by rw [(h4 0 29 (by unfold PXN; omega)).1]; exact hs⟩
    by_cases q15 : kd t = 15
    · have hX : amX kd (k + 1) d t = (if 40 ≤ d then .inl (t + 1) else (match xw kd k (d + 1) (t + 1) with
        | .inl p => .inl p
        | .inr e1 => if kd e1 = 16 then (match amX kd k (d + 1) (e1 + 1) with
          | .inl p => .inl p
          | .inr e2 => if kd e2 = 17 then amX kd k (d + 1) (e2 + 1) else .inl e2) else .inl e1)) := by
        rw [amX, if_pos q15]
      have hS1 := hS1 (by omega)
      have hS2 : SM kd wr m (si (si w 0 7 (Int32.ofNat (t + 1))) 0 8 (Int32.ofNat (d + 1))) (t + 1) (d + 1) := hS1.goD (by omega)
      rw [hX, if_pos ((kq hS.k50 (x := 267) (k := 15) rfl (by omega)).mpr q15), m_taken hS hd (by omega), be_so, show gi (si w 0 7 (Int32.ofNat (t + 1))) 0 8 = Int32.ofNat d from hS1.2.2.2.2, ad1_iN, hS.2.2.2.1]
      by_cases q40 : 40 ≤ d
      · rw [if_pos q40]
        refine ⟨fun p hp => ?_, (fun e he => nomatch he)⟩
        injection hp with hp
        subst hp
        have h41 : d + 1 = 41 := by omega
        rw [h41] at hS2 hO ⊢
        rw [dp_expr (by omega) _ _ hS2, be_no]
        exact RNO.bad hS2 hO (fun _ _ h => h)
      · rw [if_neg q40]
        obtain ⟨g1, g2⟩ := hE (by omega) _ (t + 1) nd (hII hS2 (by rw [gi_si1 (by omega), gi_si1 (by omega)]; exact hn) (by omega) hO)
        rcases hx : xw kd k (d + 1) (t + 1) with p | e1
        · refine ⟨fun p' hp => ?_, (fun e he => nomatch he)⟩
          injection hp with hp
          subst hp
          obtain ⟨u, u1, u2, u3⟩ := g1 p hx
          rw [u1, be_no]
          exact ⟨u, rfl, u2, u3.tr hO⟩
        · obtain ⟨n1, u1, cn1, r1, r3, r4, r5, r6, r7, r8, r9, r10, r11⟩ := g2 e1 hx
          have hlt1 := xw_lt k _ _ _ hx
          have he1 : e1 ≤ m := r3.2.1
          have hOu1 : OFF (PXN nd) u1 w := r11.tr hO
          rw [r1, be_so]
          dsimp only
          by_cases q16 : kd e1 = 16
          · rw [if_pos q16, m_expect r3 (by omega) (k := 16) (x := 268) rfl (by omega) q16, be_so]
            have hS4 : SM kd wr m (si u1 0 7 (Int32.ofNat (e1 + 1))) (e1 + 1) (d + 1) := r3.goT (r3.lt (by omega))
            have hO4 : OFF (PXN nd) (si u1 0 7 (Int32.ofNat (e1 + 1))) w := OFF.tr (OFF.si (Or.inl ⟨rfl, by omega⟩)) hOu1
            obtain ⟨s1, s2⟩ := ih (d + 1) (g + 1) (by omega) (by omega) (by omega) _ (e1 + 1) (n1 + 1) (hII hS4 (by rw [gi_si1 (by omega)]; exact r4) (by omega) hO4)
            rcases hy : amX kd k (d + 1) (e1 + 1) with p | e2
            · refine ⟨fun p' hp => ?_, (fun e he => nomatch he)⟩
              injection hp with hp
              subst hp
              obtain ⟨u, w1, w2, w3⟩ := s1 p hy
              rw [w1, be_no]
              exact ⟨u, rfl, w2, (w3.mono (fun _ _ hp => hp.le (by omega))).tr hO4⟩
            · obtain ⟨n2, u2, y1, y3, y4, y5, y6, y9, y10, y11⟩ := s2 e2 hy
              have hlt2 := amX_lt _ _ _ _ hy
              have he2 : e2 ≤ m := y3.2.1
              have hOu2 : OFF (PXN nd) u2 w := (y11.mono (fun _ _ hp => hp.le (by omega))).tr hO4
              rw [y1, be_so]
              dsimp only
              by_cases q17 : kd e2 = 17
              · rw [if_pos q17, m_expect y3 (by omega) (k := 17) (x := 269) rfl (by omega) q17, be_so]
                have hS5 : SM kd wr m (si u2 0 7 (Int32.ofNat (e2 + 1))) (e2 + 1) (d + 1) := y3.goT (y3.lt (by omega))
                have hO5 : OFF (PXN nd) (si u2 0 7 (Int32.ofNat (e2 + 1))) w := OFF.tr (OFF.si (Or.inl ⟨rfl, by omega⟩)) hOu2
                obtain ⟨z1, z2⟩ := ih (d + 1) (g + 1) (by omega) (by omega) (by omega) _ (e2 + 1) (n2 + 1) (hII hS5 (by rw [gi_si1 (by omega)]; exact y4) (by omega) hO5)
                refine ⟨fun p hp => ?_, fun e he => ?_⟩
                · obtain ⟨u, w1, w2, w3⟩ := z1 p hp
                  rw [w1, be_no]
                  exact ⟨u, rfl, w2, (w3.mono (fun _ _ hp => hp.le (by omega))).tr hO5⟩
                · obtain ⟨n3, u3, x1, x3, x4, x5, x6, x9, x10, x11⟩ := z2 e he
                  have hlt3 := amX_lt _ _ _ _ he
                  have he3 : e ≤ m := x3.2.1
                  have hOu3 : OFF (PXN nd) u3 w := (x11.mono (fun _ _ hp => hp.le (by omega))).tr hO5
                  rw [x1, be_so]
                  rw [show gi u3 0 8 = Int32.ofNat (d + 1) from x3.2.2.2.2, sb1_iN (by omega) (by omega), show d + 1 - 1 = d by omega]
                  have hS6 : SM kd wr m (si u3 0 8 (Int32.ofNat d)) e d := x3.goD (by omega)
                  obtain ⟨u, v1, v2, v3, v4, v5, v6, v7, v8, v9, v10, v11, v12⟩ := nm_ok (a1 := 8) (a2 := Int32.ofNat n1) (a3 := Int32.ofNat n2) (a4 := Int32.ofNat n3) (a5 := Int32.ofNat t) (v := 2) (nl := nd) hS6 (nd := n3 + 1) (by rw [gi_si1 (by omega)]; exact x4) (by omega) (by omega) (OFF.tr (OFF.si (Or.inl ⟨rfl, by omega⟩)) hOu3) hs
                  rw [v1]
                  have hA3 : AGR (n2 + 1) n3 u u3 := fun k' j hk' hj hjn => by
                    rw [v11 k' j hk' (by omega), gi_si1 (by omega)]
                  have hA2 : AGR (n1 + 1) n2 u u2 := fun k' j hk' hj hjn => by
                    rw [v11 k' j hk' (by omega), gi_si1 (by omega), (x11 k' j (by unfold PXN; omega)).1, gi_si1 (by omega)]
                  have hA1 : AGR nd n1 u u1 := fun k' j hk' hj hjn => by
                    rw [v11 k' j hk' (by omega), gi_si1 (by omega), (x11 k' j (by unfold PXN; omega)).1, gi_si1 (by omega), (y11 k' j (by unfold PXN; omega)).1, gi_si1 (by omega)]
                  exact ⟨n3 + 1, u, rfl, v2, v3, by omega, by omega, v8, ⟨by omega, v9, v10, Or.inl ⟨q15, by omega, v4, n1, n2, n3, e1, e2, cn1, v5, v6, v7, by omega, by omega, by omega, (PWR.agr k _ u1 _ _ _ _ _ _ r10).2 hA1, q16, (PAM.agr k _ u2 _ _ _ _ _ y10).2 hA2, q17, (PAM.agr k _ u3 _ _ _ _ _ x10).2 hA3⟩⟩, v12⟩
              · rw [if_neg q17, m_expect_no y3 (k := 17) (x := 269) rfl (by omega) (Or.inr q17) (by omega), be_no]
                refine ⟨fun p' hp => ?_, (fun e he => nomatch he)⟩
                injection hp with hp
                subst hp
                exact RNO.bad y3 hOu2 (fun _ _ h => h)
          · rw [if_neg q16, m_expect_no r3 (k := 16) (x := 268) rfl (by omega) (Or.inr q16) (by omega), be_no]
            refine ⟨fun p' hp => ?_, (fun e he => nomatch he)⟩
            injection hp with hp
            subst hp
            exact RNO.bad r3 hOu1 (fun _ _ h => h)
    · have hc15 : ¬ (Int32.ofNat (kM (kd t)) = 267) := fun e => q15 ((kq hS.k50 (x := 267) (k := 15) rfl (by omega)).mp e)
      rw [if_neg hc15]
      by_cases q43 : kd t = 43
      · have hX : amX kd (k + 1) d t = (if 40 ≤ d then .inl (t + 1) else (match amX kd k (d + 1) (t + 1) with
          | .inl p => .inl p
          | .inr e => if kd e = 44 then .inr (e + 1) else .inl e)) := by
          rw [amX, if_neg q15, if_pos q43]
        have hS1 := hS1 (by omega)
        have hS2 : SM kd wr m (si (si w 0 7 (Int32.ofNat (t + 1))) 0 8 (Int32.ofNat (d + 1))) (t + 1) (d + 1) := hS1.goD (by omega)
        rw [hX, if_pos ((kq hS.k50 (x := 40) (k := 43) rfl (by omega)).mpr q43), m_taken hS hd (by omega), be_so, show gi (si w 0 7 (Int32.ofNat (t + 1))) 0 8 = Int32.ofNat d from hS1.2.2.2.2, ad1_iN, hS.2.2.2.1]
        by_cases q40 : 40 ≤ d
        · rw [if_pos q40]
          refine ⟨fun p hp => ?_, (fun e he => nomatch he)⟩
          injection hp with hp
          subst hp
          have h41 : d + 1 = 41 := by omega
          rw [h41] at hS2 hO ⊢
          have hdp : RX12_variable (g + 1) 3 0 0 0 _ = _ := dp_aim (kd := kd) (wr := wr) (m := m) (rc := RX12_variable g) _ _ hS2
          rw [hdp, be_no]
          exact RNO.bad hS2 hO (fun _ _ h => h)
        · rw [if_neg q40]
          obtain ⟨s1, s2⟩ := ih (d + 1) (g + 1) (by omega) (by omega) (by omega) _ (t + 1) nd (hII hS2 (by rw [gi_si1 (by omega), gi_si1 (by omega)]; exact hn) (by omega) hO)
          rcases hy : amX kd k (d + 1) (t + 1) with p | e
          · refine ⟨fun p' hp => ?_, (fun e he => nomatch he)⟩
            injection hp with hp
            subst hp
            obtain ⟨u, w1, w2, w3⟩ := s1 p hy
            rw [w1, be_no]
            exact ⟨u, rfl, w2, w3.tr hO⟩
          · obtain ⟨n2, u2, y1, y3, y4, y5, y6, y9, y10, y11⟩ := s2 e hy
            have hlt2 := amX_lt _ _ _ _ hy
            have he2 : e ≤ m := y3.2.1
            rw [y1, be_so, show gi u2 0 8 = Int32.ofNat (d + 1) from y3.2.2.2.2, sb1_iN (by omega) (by omega), show d + 1 - 1 = d by omega]
            dsimp only [lt]
            have hS3 : SM kd wr m (si u2 0 8 (Int32.ofNat d)) e d := y3.goD (by omega)
            have hO3 : OFF (PXN nd) (si u2 0 8 (Int32.ofNat d)) w := OFF.tr (OFF.si (Or.inl ⟨rfl, by omega⟩)) (y11.tr hO)
            by_cases q44 : kd e = 44
            · rw [if_pos q44, m_expect hS3 hd (k := 44) (x := 41) rfl (by omega) q44, be_so]
              have hS4 : SM kd wr m (si (si u2 0 8 (Int32.ofNat d)) 0 7 (Int32.ofNat (e + 1))) (e + 1) d := hS3.goT (hS3.lt (by omega))
              obtain ⟨u, v1, v2, v3, v4, v5, v6, v7, v8, v9, v10, v11, v12⟩ := nm_ok (a1 := 9) (a2 := Int32.ofNat n2) (a3 := 0) (a4 := 0) (a5 := Int32.ofNat t) (v := 2) (nl := nd) hS4 (nd := n2 + 1) (by rw [gi_si1 (by omega), gi_si1 (by omega)]; exact y4) (by omega) (by omega) (OFF.tr (OFF.si (Or.inl ⟨rfl, by omega⟩)) hO3) hs
              rw [v1]
              refine ⟨(fun p' h' => nomatch h'), fun e3 h' => ?_⟩
              injection h' with h'
              subst h'
              have hA2 : AGR nd n2 u u2 := fun k' j hk' hj hjn => by
                rw [v11 k' j hk' (by omega), gi_si1 (by omega), gi_si1 (by omega)]
              exact ⟨n2 + 1, u, rfl, v2, v3, by omega, by omega, v8, ⟨by omega, v9, v10, Or.inr (Or.inl ⟨q43, by omega, v4, n2, e, v5, by omega, (PAM.agr k _ u2 _ _ _ _ _ y10).2 hA2, q44, rfl⟩)⟩, v12⟩
            · rw [if_neg q44, m_expect_no hS3 (k := 44) (x := 41) rfl (by omega) (Or.inr q44) (by omega), be_no]
              refine ⟨fun p' hp => ?_, (fun e he => nomatch he)⟩
              injection hp with hp
              subst hp
              exact RNO.bad hS3 hO3 (fun _ _ h => h)
      · have hc43 : ¬ (Int32.ofNat (kM (kd t)) = 40) := fun e => q43 ((kq hS.k50 (x := 40) (k := 43) rfl (by omega)).mp e)
        rw [if_neg hc43]
        by_cases q2 : kd t = 2
        · have hS1 := hS1 (by omega)
          have hm := hS.lt (by omega)
          have hX : amX kd (k + 1) d t = (if kd (t + 1) = 45 then (if 40 ≤ d then .inl (t + 2) else (match xw kd k (d + 1) (t + 2) with
            | .inl p => .inl p
            | .inr e => if kd e = 46 then .inr (e + 1) else .inl e)) else .inr (t + 1)) := by
            rw [amX, if_neg q15, if_neg q43, if_pos q2]
          rw [hX, m_expect hS hd (k := 2) (x := 285) rfl (by omega) q2, be_so, m_kind hS1, bn2_so]
          by_cases q45 : kd (t + 1) = 45
          · have hS1' : SM kd wr m (si (si w 0 7 (Int32.ofNat (t + 1))) 0 7 (Int32.ofNat (t + 2))) (t + 2) d := hS1.goT (hS1.lt (by omega))
            rw [if_pos q45, if_pos ((kq hS.k50 (x := 91) (k := 45) rfl (by omega)).mpr q45), m_taken hS1 hd (by omega), be_so, show gi (si (si w 0 7 (Int32.ofNat (t + 1))) 0 7 (Int32.ofNat (t + 1 + 1))) 0 8 = Int32.ofNat d from hS1'.2.2.2.2, ad1_iN]
            have hS2 : SM kd wr m (si (si (si w 0 7 (Int32.ofNat (t + 1))) 0 7 (Int32.ofNat (t + 1 + 1))) 0 8 (Int32.ofNat (d + 1))) (t + 2) (d + 1) := hS1'.goD (by omega)
            have hO2 : OFF (PXN nd) (si (si (si w 0 7 (Int32.ofNat (t + 1))) 0 7 (Int32.ofNat (t + 1 + 1))) 0 8 (Int32.ofNat (d + 1))) w := OFF.tr (OFF.si (Or.inl ⟨rfl, by omega⟩)) (OFF.tr (OFF.si (Or.inl ⟨rfl, by omega⟩)) hO1)
            by_cases q40 : 40 ≤ d
            · rw [if_pos q40]
              refine ⟨fun p hp => ?_, (fun e he => nomatch he)⟩
              injection hp with hp
              subst hp
              have h41 : d + 1 = 41 := by omega
              rw [h41] at hS2 hO2 ⊢
              rw [dp_expr (by omega) _ _ hS2, be_no]
              exact RNO.bad hS2 hO2 (fun _ _ h => h)
            · rw [if_neg q40]
              obtain ⟨g1, g2⟩ := hE (by omega) _ (t + 2) nd (hII hS2 (by rw [gi_si1 (by omega), gi_si1 (by omega), gi_si1 (by omega)]; exact hn) (by omega) hO2)
              rcases hx : xw kd k (d + 1) (t + 2) with p | e
              · refine ⟨fun p' hp => ?_, (fun e he => nomatch he)⟩
                injection hp with hp
                subst hp
                obtain ⟨u, u1, u2, u3⟩ := g1 p hx
                rw [u1, be_no]
                exact ⟨u, rfl, u2, u3.tr hO2⟩
              · obtain ⟨n1, u1, cn1, r1, r3, r4, r5, r6, r7, r8, r9, r10, r11⟩ := g2 e hx
                have hlt1 := xw_lt k _ _ _ hx
                have he1 : e ≤ m := r3.2.1
                rw [r1, be_so, show gi u1 0 8 = Int32.ofNat (d + 1) from r3.2.2.2.2, sb1_iN (by omega) (by omega), show d + 1 - 1 = d by omega]
                dsimp only [lt]
                have hS3 : SM kd wr m (si u1 0 8 (Int32.ofNat d)) e d := r3.goD (by omega)
                have hO3 : OFF (PXN nd) (si u1 0 8 (Int32.ofNat d)) w := OFF.tr (OFF.si (Or.inl ⟨rfl, by omega⟩)) (r11.tr hO2)
                by_cases q46 : kd e = 46
                · rw [if_pos q46, m_expect hS3 hd (k := 46) (x := 93) rfl (by omega) q46, be_so]
                  have hS4 : SM kd wr m (si (si u1 0 8 (Int32.ofNat d)) 0 7 (Int32.ofNat (e + 1))) (e + 1) d := hS3.goT (hS3.lt (by omega))
                  obtain ⟨u, v1, v2, v3, v4, v5, v6, v7, v8, v9, v10, v11, v12⟩ := nm_ok (a1 := 4) (a2 := Int32.ofNat n1) (a3 := 1) (a4 := 0) (a5 := Int32.ofNat t) (v := 2) (nl := nd) hS4 (nd := n1 + 1) (by rw [gi_si1 (by omega), gi_si1 (by omega)]; exact r4) (by omega) (by omega) (OFF.tr (OFF.si (Or.inl ⟨rfl, by omega⟩)) hO3) hs
                  rw [v1]
                  refine ⟨(fun p' h' => nomatch h'), fun e3 h' => ?_⟩
                  injection h' with h'
                  subst h'
                  have hA2 : AGR nd n1 u u1 := fun k' j hk' hj hjn => by
                    rw [v11 k' j hk' (by omega), gi_si1 (by omega), gi_si1 (by omega)]
                  exact ⟨n1 + 1, u, rfl, v2, v3, by omega, by omega, v8, ⟨by omega, v9, v10, Or.inr (Or.inr (Or.inl ⟨q2, q45, by omega, v4, v6, n1, e, cn1, v5, by omega, (PWR.agr k _ u1 _ _ _ _ _ _ r10).2 hA2, q46, rfl⟩))⟩, v12⟩
                · rw [if_neg q46, m_expect_no hS3 (k := 46) (x := 93) rfl (by omega) (Or.inr q46) (by omega), be_no]
                  refine ⟨fun p' hp => ?_, (fun e he => nomatch he)⟩
                  injection hp with hp
                  subst hp
                  exact RNO.bad hS3 hO3 (fun _ _ h => h)
          · have hc45 : ¬ (Int32.ofNat (kM (kd (t + 1))) = 91) := fun e => q45 ((kq hS.k50 (x := 91) (k := 45) rfl (by omega)).mp e)
            rw [if_neg q45, if_neg hc45]
            obtain ⟨u, v1, v2, v3, v4, v5, v6, v7, v8, v9, v10, v11, v12⟩ := nm_ok (a1 := 3) (a2 := 0) (a3 := 0) (a4 := 0) (a5 := Int32.ofNat t) (v := 2) (nl := nd) hS1 (nd := nd) (by rw [gi_si1 (by omega)]; exact hn) (by omega) (by omega) hO1 hs
            rw [v1]
            refine ⟨(fun p' h' => nomatch h'), fun e3 h' => ?_⟩
            injection h' with h'
            subst h'
            exact ⟨nd, u, rfl, v2, v3, by omega, by omega, v8, ⟨by omega, v9, v10, Or.inr (Or.inr (Or.inr ⟨q2, q45, v4, rfl⟩))⟩, v12⟩
        · have hX : amX kd (k + 1) d t = .inl t := by
            rw [amX, if_neg q15, if_neg q43, if_neg q2]
          rw [hX, m_expect_no hS (k := 2) (x := 285) rfl (by omega) (Or.inr q2) (by omega), be_no]
          refine ⟨fun p' hp => ?_, (fun e he => nomatch he)⟩
          injection hp with hp
          subst hp
          exact RNO.bad hS OFF.rf (fun _ _ h => h)
end RE
