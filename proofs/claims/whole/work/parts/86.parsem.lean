/-! THE REFERENCE GOES OVER EXPRS: levels, all -/
section RE
variable {kd wr : Nat → Nat} {m : Nat} {sc : Int32}
theorem lvO_0 : ∀ a, a < 51 → fX12_levelOf (Int32.ofNat (kM a)) wZZ = Int32.ofNat (stb a) := by decide +kernel
theorem lvO {a : Nat} (h : a ≤ 50) (w : Wd) : fX12_levelOf (Int32.ofNat (kM a)) w = Int32.ofNat (stb a) := lvO_0 a (by omega)
/-- at level 10 - j -/
abbrev LVL (kd : Nat → Nat) (sc : Int32) (k j d : Nat) : Nat → Nat → Wd → Nat → Nat → Nat → Prop := fun t e u lo n cn => ∃ evs q, rd kd (xp kd k) j d t = .inr (e, evs) ∧ PEV kd u (PWR kd u sc k) sc q lo n d t evs cn
def rdE (kd : Nat → Nat) (k j d t : Nat) : Sum Nat Nat := match rd kd (xp kd k) j d t with
  | .inl p => .inl p
  | .inr r => .inr r.1
theorem rdE_l {k j d t p : Nat} (h : rdE kd k j d t = .inl p) : rd kd (xp kd k) j d t = .inl p := by
  unfold rdE at h
  rcases hx : rd kd (xp kd k) j d t with q | r
  · rw [hx] at h; injection h with h; rw [h]
  · rw [hx] at h; exact nomatch h
theorem rdE_r {k j d t e : Nat} (h : rdE kd k j d t = .inr e) : ∃ evs, rd kd (xp kd k) j d t = .inr (e, evs) := by
  unfold rdE at h
  rcases hx : rd kd (xp kd k) j d t with q | r
  · rw [hx] at h; exact nomatch h
  · rw [hx] at h; injection h with h; exact ⟨r.2, by rw [← h]⟩
theorem lpR5 (f : Nat → RS) (n t : Nat) (ev : List EV) : lpR kd f 5 n t ev = .inr (t, ev) := by
  cases n with
  | zero => rfl
  | succ n =>
    unfold lpR
    rw [if_neg (fun h => by
      obtain ⟨a, b⟩ := stb_stg h (by omega)
      exact b (stg_five a))]
/-- a level's loop, its left operand n0 from token t0 -/
theorem m_loop {rc : TX12_variable} {k j d l : Nat} (hl : l = 9 - j) (hj : j ≤ 8) (hd : d ≤ 40) (hR : FUN kd wr m sc d (rdE kd k j d) (LVL kd sc k j d) (rc 7 (Int32.ofNat (l + 1)) 1 0)) : ∀ (n f : Nat) (w : Wd) (e n0 lo t0 q cn : Nat) (ev : List EV), INS kd wr m sc w e d (n0 + 1) → lo ≤ n0 → 9000 ≤ e + n → t0 < e → n0 + 1 + t0 ≤ lo + e → lo ≤ 2 * t0 + 100 → PEV kd w (PWR kd w sc k) sc q lo n0 d t0 ev cn → (cn = 1 ∨ cn = 3) → gi w 45 n0 = Int32.ofNat cn → gi w 11 n0 = -1 →
   (∀ p, lpR kd (rd kd (xp kd k) j d) l n e ev = .inl p → RNO wr (oX12_level_176 rc (f + n) (Int32.ofNat l) (Int32.ofNat t0) (Int32.ofNat n0) w) w (PXN lo) p)
   ∧ ∀ r, lpR kd (rd kd (xp kd k) j d) l n e ev = .inr r → ∃ n' u cn' q', oX12_level_176 rc (f + n) (Int32.ofNat l) (Int32.ofNat t0) (Int32.ofNat n0) w = some (some (Int32.ofNat n'), u) ∧ SM kd wr m u r.1 d ∧ gi u 0 23 = Int32.ofNat (n' + 1) ∧ lo ≤ n' ∧ n' + 1 + t0 ≤ lo + r.1 ∧ (cn' = 1 ∨ cn' = 3) ∧ gi u 45 n' = Int32.ofNat cn' ∧ gi u 11 n' = -1 ∧ PEV kd u (PWR kd u sc k) sc q' lo n' d t0 r.2 cn' ∧ OFF (PXN lo) u w := by
  intro n
  induction n with
  | zero =>
    intro f w e n0 lo t0 q cn ev h _ hn
    have := h.1.2.1
    have := h.1.1.1
    omega
  | succ n ih =>
    intro f w e n0 lo t0 q cn ev h hlo hn ht hc hlo2 hP hcn h45 h11
    obtain ⟨hS, hcr, hb, hs⟩ := h
    have hmm : m ≤ 8193 := hS.1.1
    have hem : e ≤ m := hS.2.1
    rw [← Nat.add_assoc]
    have hst : oX12_level_176 rc (f + n + 1) (Int32.ofNat l) (Int32.ofNat t0) (Int32.ofNat n0) w = fX12_level_176 rc (oX12_level_176 rc (f + n)) (Int32.ofNat l) (Int32.ofNat t0) (Int32.ofNat n0) w := rfl
    rw [hst]
    unfold fX12_level_176 lpR
    rw [m_kind hS, bn2_so]
    dsimp only [lt]
    rw [lvO (hS.k50 e)]
    have h50 := stb_le (kd e)
    by_cases q1 : stb (kd e) = l
    · rw [if_pos q1, if_pos (by rw [q1])]
      have h2 : 2 ≤ kd e := by
        by_cases q9 : 2 ≤ kd e
        · exact q9
        · have : stb (kd e) = 0 := by
            rcases (show kd e = 0 ∨ kd e = 1 by omega) with h | h <;> rw [h] <;> rfl
          omega
      have hS1 : SM kd wr m (si w 0 7 (Int32.ofNat (e + 1))) (e + 1) d := hS.goT (hS.lt h2)
      have hO1 : ∀ nd, OFF (PXN nd) (si w 0 7 (Int32.ofNat (e + 1))) w := fun nd => OFF.si (Or.inl ⟨rfl, by omega⟩)
      rw [m_taken hS hd h2, be_so, if_pos (inb_iN (by omega) (by omega)), tc_iN (by omega), show gi (si w 0 7 (Int32.ofNat (e + 1))) 2 e = Int32.ofNat (kM (kd e)) from (hS1.1.2.2.2.2 e hem).1, ad1_iN]
      obtain ⟨g1, g2⟩ := hR _ (e + 1) (n0 + 1) ⟨hS1, by rw [gi_si1 (by omega)]; exact hcr, by omega, by rw [gi_si1 (by omega)]; exact hs⟩
      rcases hx : rd kd (xp kd k) j d (e + 1) with p | r2
      · refine ⟨fun p' h' => ?_, (fun e1 h' => nomatch h')⟩
        injection h' with h'
        subst h'
        obtain ⟨u, u1, u2, u3⟩ := g1 p (by unfold rdE; rw [hx])
        rw [u1, be_no]
        exact ⟨u, rfl, u2, (u3.mono (fun _ _ hp => hp.le (by omega))).tr (hO1 lo)⟩
      · obtain ⟨n1, u1, cn1, r1, r3, r4, r5, r6, r7, r8, r9, ⟨ey, qy, r10, r10'⟩, r11⟩ := g2 r2.1 (by unfold rdE; rw [hx])
        rw [hx] at r10
        have hr2 : r2 = (r2.1, ey) := by injection r10
        have hlt := rd_lt (kd := kd) (xp_lt (kd := kd) k) _ _ _ _ hx
        have he2 : r2.1 ≤ m := r3.2.1
        rw [r1, be_so]
        obtain ⟨u, v1, v2, v3, v4, v5, v6, v7, v8, v9, v10, v11⟩ := nd_ok (a1 := 6) (a2 := Int32.ofNat n0) (a3 := Int32.ofNat (kM (kd e))) (a4 := Int32.ofNat n1) (a5 := Int32.ofNat t0) r3 r4 (by omega)
        rw [v1, bn2_so, may_ok (by omega), bn2_so]
        have hO : OFF (PXN (n0 + 1)) (si u 45 (n1 + 1) 1) w := OFF.tr (OFF.si (Or.inr ⟨Or.inr rfl, by omega⟩)) (OFF.tr (v11.mono (fun _ _ hp => hp.x (by omega))) (r11.tr (hO1 _)))
        have hOl : OFF (PXN lo) (si u 45 (n1 + 1) 1) w := hO.mono (fun _ _ hp => hp.le (by omega))
        have hS9 : SM kd wr m (si u 45 (n1 + 1) 1) r2.1 d := v2.si (by omega) (by omega)
        have hA0 : AGR lo n0 (si u 45 (n1 + 1) 1) w := AGR.of hO (by omega)
        have hA1 : AGR (n0 + 1) n1 (si u 45 (n1 + 1) 1) u1 := fun k' j' hk' hj hjn => by
          rw [gi_si1 (by omega), (v11 k' j' (by unfold PN; omega)).1]
        have hQ : PEV kd (si u 45 (n1 + 1) 1) (PWR kd (si u 45 (n1 + 1) 1) sc k) sc (max q qy + 1) lo (n1 + 1) d t0 (ev ++ r2.2 ++ [(2, kd e, e)]) 1 := by
          refine ⟨by omega, Or.inl ⟨by rw [gi_si1 (by omega)]; exact v4, rfl, gi_si0 _ _ _ _, by rw [gi_si1 (by omega)]; exact v9, n0, n1, kd e, e, e + 1, ev, r2.2, cn, cn1, by rw [gi_si1 (by omega)]; exact v5, by rw [gi_si1 (by omega)]; exact v7, by rw [gi_si1 (by omega)]; exact v6, by omega, by omega, by omega, rfl, ?_, ?_⟩⟩
          · exact PEV.mono q _ _ _ _ _ _ _ (by omega) (PEV.agr (PWR.agr k) q _ _ _ _ _ _ hP hA0)
          · rw [hr2]
            exact PEV.mono qy _ _ _ _ _ _ _ (by omega) (PEV.agr (PWR.agr k) qy _ _ _ _ _ _ r10' hA1)
        dsimp only
        by_cases q6 : l = 6
        · rw [if_pos q6, if_pos (by rw [q6]; rfl)]
          refine ⟨(fun p' h' => nomatch h'), fun r h' => ?_⟩
          injection h' with h'
          subst h'
          exact ⟨n1 + 1, _, 1, _, rfl, hS9, by rw [gi_si1 (by omega)]; exact v3, by omega, by show n1 + 1 + 1 + t0 ≤ lo + r2.1; omega, Or.inl rfl, gi_si0 _ _ _ _, by rw [gi_si1 (by omega)]; exact v8, hQ, hOl⟩
        · have hq6 : ¬ (Int32.ofNat l = 6) := fun e => q6 ((eq_iN (a := l) (b := 6) (by omega) (by omega)).mp e)
          rw [if_neg q6, if_neg hq6]
          obtain ⟨i1, i2⟩ := ih f (si u 45 (n1 + 1) 1) r2.1 (n1 + 1) lo t0 _ 1 _ ⟨hS9, by rw [gi_si1 (by omega)]; exact v3, by omega, by rw [gi_si1 (by omega), (v11 0 29 (by unfold PN; omega)).1, (r11 0 29 (by unfold PXN; omega)).1, gi_si1 (by omega)]; exact hs⟩ (by omega) (by omega) (by omega) (by omega) hlo2 hQ (Or.inl rfl) (gi_si0 _ _ _ _) (by rw [gi_si1 (by omega)]; exact v8)
          refine ⟨fun p hp => ?_, fun r hr => ?_⟩
          · obtain ⟨u9, w1, w2, w3⟩ := i1 p hp
            exact ⟨u9, w1, w2, w3.tr hOl⟩
          · obtain ⟨n9, u9, cn9, q9, w1, w2, w3, w4, w5, w6, w7, w8, w9, w10⟩ := i2 r hr
            exact ⟨n9, u9, cn9, q9, w1, w2, w3, w4, w5, w6, w7, w8, w9, w10.tr hOl⟩
    · have hq1 : ¬ (Int32.ofNat (stb (kd e)) = Int32.ofNat l) := fun e => q1 ((eq_iN (by omega) (by omega)).mp e)
      rw [if_neg q1, if_neg hq1]
      refine ⟨(fun p' h' => nomatch h'), fun r h' => ?_⟩
      injection h' with h'
      subst h'
      exact ⟨n0, w, cn, q, rfl, hS, hcr, hlo, by show n0 + 1 + t0 ≤ lo + e; omega, hcn, h45, h11, hP, OFF.rf⟩
theorem can1 {cn : Nat} (h : cn = 1 ∨ cn = 3) : ¬ (Int32.ofNat cn &&& 1 = 0) := by
  rcases h with rfl | rfl <;> decide
theorem m_level {k : Nat} (hP : ∀ d F, d ≤ 40 → 41 ≤ k + 1 + d → 20 * (42 - d) + 1 ≤ F → FUN kd wr m sc d (xp kd k d) (fun t e u lo n cn => PRI kd u (PWR kd u sc k) sc lo n d t e cn) (RX12_variable F 8 1 0 0)) : ∀ j, j ≤ 9 → ∀ d F, d ≤ 40 → 41 ≤ k + 1 + d → 20 * (42 - d) + 2 + j ≤ F → FUN kd wr m sc d (rdE kd k j d) (LVL kd sc k j d) (RX12_variable F 7 (Int32.ofNat (10 - j)) 1 0) := by
  intro j
  induction j with
  | zero =>
    intro _ d F hd hk hF
    obtain ⟨g, rfl⟩ : ∃ g, F = g + 1 := ⟨F - 1, by omega⟩
    have h9 := hP d g hd hk (by omega)
    intro w t nd hI
    obtain ⟨g1, g2⟩ := h9 w t nd hI
    show (∀ p, _ → RNO wr (fX12_level (RX12_variable g) (Int32.ofNat 10) 1 w) w (PXN nd) p) ∧ (∀ e, _ → RYS kd wr m _ (fX12_level (RX12_variable g) (Int32.ofNat 10) 1 w) w nd d t e)
    unfold fX12_level
    rw [if_pos (show Int32.ofNat 10 = 10 from rfl)]
    refine ⟨fun p hp => ?_, fun e he => ?_⟩
    · have hp := rdE_l hp
      unfold rd at hp
      rcases hx : xp kd k d t with p1 | e1
      · rw [hx] at hp
        injection hp with hp
        subst hp
        obtain ⟨u, u1, u2⟩ := g1 p1 hx
        rw [u1, be_no]
        exact ⟨u, rfl, u2⟩
      · rw [hx] at hp; exact nomatch hp
    · obtain ⟨evs, he⟩ := rdE_r he
      have he' := he
      unfold rd at he
      rcases hx : xp kd k d t with p1 | e1
      · rw [hx] at he; exact nomatch he
      · rw [hx] at he
        injection he with he
        injection he with he hev
        subst he
        subst hev
        obtain ⟨n, u, cn, u1, u2, u3, u4, u5, u6, u7, u8, u9, u10⟩ := g2 e1 hx
        rw [u1, be_so]
        exact ⟨n, u, cn, rfl, u2, u3, u4, u5, u6, u7, u8, ⟨_, 1, he', u4, Or.inr (Or.inr ⟨e1, rfl, u9⟩)⟩, u10⟩
  | succ j ih =>
    intro hj
    -- the loop behind a first operand
    have hloop : ∀ d F, d ≤ 40 → 41 ≤ k + 1 + d → 20 * (42 - d) + 2 + j ≤ F → ∀ (w : Wd) (e n0 lo t0 q cn : Nat) (ev : List EV), INS kd wr m sc w e d (n0 + 1) → lo ≤ n0 → t0 < e → n0 + 1 + t0 ≤ lo + e → lo ≤ 2 * t0 + 100 → PEV kd w (PWR kd w sc k) sc q lo n0 d t0 ev cn → (cn = 1 ∨ cn = 3) → gi w 45 n0 = Int32.ofNat cn → gi w 11 n0 = -1 →
        (∀ p, lpR kd (rd kd (xp kd k) j d) (9 - j) (9000 - e) e ev = .inl p → RNO wr (oX12_level_176 (RX12_variable F) FU (Int32.ofNat (9 - j)) (Int32.ofNat t0) (Int32.ofNat n0) w) w (PXN lo) p)
        ∧ ∀ r, lpR kd (rd kd (xp kd k) j d) (9 - j) (9000 - e) e ev = .inr r → ∃ n' u cn' q', oX12_level_176 (RX12_variable F) FU (Int32.ofNat (9 - j)) (Int32.ofNat t0) (Int32.ofNat n0) w = some (some (Int32.ofNat n'), u) ∧ SM kd wr m u r.1 d ∧ gi u 0 23 = Int32.ofNat (n' + 1) ∧ lo ≤ n' ∧ n' + 1 + t0 ≤ lo + r.1 ∧ (cn' = 1 ∨ cn' = 3) ∧ gi u 45 n' = Int32.ofNat cn' ∧ gi u 11 n' = -1 ∧ PEV kd u (PWR kd u sc k) sc q' lo n' d t0 r.2 cn' ∧ OFF (PXN lo) u w := by
      intro d F hd hk hF w e n0 lo t0 q cn ev hI h1 h2 h3 h4 h5 h6 h7 h8
      obtain ⟨f, hf⟩ := FU_ge (k := 9000 - e) (by omega)
      rw [hf]
      have hR := ih (by omega) d F hd hk hF
      rw [show 10 - j = (9 - j) + 1 by omega] at hR
      exact m_loop rfl (by omega) hd hR (9000 - e) f w e n0 lo t0 q cn ev hI h1 (by omega) h2 h3 h4 h5 h6 h7 h8
    have hl : 10 - (j + 1) = 9 - j := by omega
    rw [hl]
    have hi : ∀ c : Nat, c ≤ 10 → ((Int32.ofNat (9 - j) = Int32.ofNat c) ↔ 9 - j = c) := fun c hc => eq_iN (by omega) (by omega)
    -- without a sign for one
    have h151 : ∀ d F, d ≤ 40 → 41 ≤ k + 1 + d → 20 * (42 - d) + 2 + j ≤ F → ∀ (w : Wd) (t nd : Nat), INS kd wr m sc w t d nd →
        (∀ p, (match rd kd (xp kd k) j d t with | .inl p => .inl p | .inr r => lpR kd (rd kd (xp kd k) j d) (9 - j) (9000 - r.1) r.1 r.2) = Sum.inl p → RNO wr (fX12_level_151 (RX12_variable F) (Int32.ofNat (9 - j)) 1 (Int32.ofNat t) w) w (PXN nd) p)
        ∧ ∀ r, (match rd kd (xp kd k) j d t with | .inl p => .inl p | .inr r => lpR kd (rd kd (xp kd k) j d) (9 - j) (9000 - r.1) r.1 r.2) = Sum.inr r → ∃ n' u cn' q', fX12_level_151 (RX12_variable F) (Int32.ofNat (9 - j)) 1 (Int32.ofNat t) w = some (some (Int32.ofNat n'), u) ∧ SM kd wr m u r.1 d ∧ gi u 0 23 = Int32.ofNat (n' + 1) ∧ nd ≤ n' ∧ n' + 1 + t ≤ nd + r.1 ∧ (cn' = 1 ∨ cn' = 3) ∧ gi u 45 n' = Int32.ofNat cn' ∧ gi u 11 n' = -1 ∧ PEV kd u (PWR kd u sc k) sc q' nd n' d t r.2 cn' ∧ OFF (PXN nd) u w := by
      intro d F hd hk hF w t nd hI
      have hR := ih (by omega) d F hd hk hF
      rw [show 10 - j = (9 - j) + 1 by omega] at hR
      obtain ⟨g1, g2⟩ := hR w t nd hI
      have htm : t ≤ m := hI.1.2.1
      have hmm : m ≤ 8193 := hI.1.1.1
      have hnb := hI.2.2.1
      unfold fX12_level_151
      rw [ad1_iN]
      rcases hx : rd kd (xp kd k) j d t with p | r
      · refine ⟨fun p' h' => ?_, (fun e1 h' => nomatch h')⟩
        injection h' with h'
        subst h'
        obtain ⟨u, u1, u2, u3⟩ := g1 p (by unfold rdE; rw [hx])
        rw [u1, be_no]
        exact ⟨u, rfl, u2, u3⟩
      · obtain ⟨n1, u1, cn1, r1, r3, r4, r5, r6, r7, r8, r9, ⟨ey, qy, r10, r10'⟩, r11⟩ := g2 r.1 (by unfold rdE; rw [hx])
        rw [hx] at r10
        have hr2 : r = (r.1, ey) := by injection r10
        have hlt := rd_lt (kd := kd) (xp_lt (kd := kd) k) _ _ _ _ hx
        have he2 : r.1 ≤ m := r3.2.1
        rw [r1, be_so, if_pos (inb_iN (by omega) (by omega)), tc_iN (by omega), r8, if_neg (can1 r7)]
        have hey : r.2 = ey := by rw [hr2]
        rw [← hey] at r10'
        obtain ⟨i1, i2⟩ := hloop d F hd hk hF u1 r.1 n1 nd t qy cn1 r.2 ⟨r3, r4, by omega, by rw [(r11 0 29 (by unfold PXN; omega)).1]; exact hI.2.2.2⟩ r5 hlt r6 hnb r10' r7 r8 r9
        refine ⟨fun p hp => ?_, fun r' hr => ?_⟩
        · obtain ⟨u9, w1, w2, w3⟩ := i1 p hp
          exact ⟨u9, w1, w2, w3.tr r11⟩
        · obtain ⟨n9, u9, cn9, q9, w1, w2, w3, w4, w5, w6, w7, w8, w9, w10⟩ := i2 r' hr
          exact ⟨n9, u9, cn9, q9, w1, w2, w3, w4, w5, w6, w7, w8, w9, w10.tr r11⟩
    by_cases q5 : j = 4
    · -- nots
      subst q5
      have hN : ∀ mm d F, d ≤ 40 → 41 ≤ mm + d → 41 ≤ k + 1 + d → 20 * (42 - d) + 7 ≤ F → ∀ (w : Wd) (t nd : Nat), INS kd wr m sc w t d nd →
        (∀ p, rdN kd (rd kd (xp kd k) 4) mm d t = .inl p → RNO wr (RX12_variable F 7 5 1 0 w) w (PXN nd) p)
        ∧ ∀ r, rdN kd (rd kd (xp kd k) 4) mm d t = .inr r → ∃ n' u cn' q', RX12_variable F 7 5 1 0 w = some (some (Int32.ofNat n'), u) ∧ SM kd wr m u r.1 d ∧ gi u 0 23 = Int32.ofNat (n' + 1) ∧ nd ≤ n' ∧ n' + 1 + t ≤ nd + r.1 ∧ (cn' = 1 ∨ cn' = 3) ∧ gi u 45 n' = Int32.ofNat cn' ∧ gi u 11 n' = -1 ∧ PEV kd u (PWR kd u sc k) sc q' nd n' d t r.2 cn' ∧ OFF (PXN nd) u w := by
        intro mm
        induction mm with
        | zero => intro d F hd hm; omega
        | succ mm ihm =>
          intro d F hd hm hk hF w t nd hI
          obtain ⟨g, rfl⟩ : ∃ g, F = g + 1 := ⟨F - 1, by omega⟩
          have htm : t ≤ m := hI.1.2.1
          have hmm : m ≤ 8193 := hI.1.1.1
          have hnb := hI.2.2.1
          have hst : RX12_variable (g + 1) 7 5 1 0 w = fX12_level (RX12_variable g) 5 1 w := rfl
          rw [hst]
          unfold fX12_level rdN
          rw [if_neg (show ¬ ((5 : Int32) = 10) by decide)]
          dsimp only [lt]
          rw [if_pos (show (5 : Int32) = 5 from rfl), m_kind hI.1, bn2_so]
          by_cases q29 : kd t = 29
          · rw [if_pos q29, if_pos ((kq hI.1.k50 (x := 281) (k := 29) rfl (by omega)).mpr q29)]
            obtain ⟨hS, hn, hb, hs⟩ := hI
            have hS1 : SM kd wr m (si w 0 7 (Int32.ofNat (t + 1))) (t + 1) d := hS.goT (hS.lt (by omega))
            have hO1 : OFF (PXN nd) (si w 0 7 (Int32.ofNat (t + 1))) w := OFF.si (Or.inl ⟨rfl, by omega⟩)
            rw [m_taken hS hd (by omega), be_so, show gi (si w 0 7 (Int32.ofNat (t + 1))) 0 8 = Int32.ofNat d from hS1.2.2.2.2, ad1_iN, hS.2.2.2.1]
            have hS2 : SM kd wr m (si (si w 0 7 (Int32.ofNat (t + 1))) 0 8 (Int32.ofNat (d + 1))) (t + 1) (d + 1) := hS1.goD (by omega)
            have hO : OFF (PXN nd) (si (si w 0 7 (Int32.ofNat (t + 1))) 0 8 (Int32.ofNat (d + 1))) w := OFF.tr (OFF.si (Or.inl ⟨rfl, by omega⟩)) hO1
            by_cases q40 : 40 ≤ d
            · rw [if_pos q40]
              refine ⟨fun p hp => ?_, (fun e he => nomatch he)⟩
              injection hp with hp
              subst hp
              have h41 : d + 1 = 41 := by omega
              rw [h41] at hS2 hO ⊢
              obtain ⟨g', rfl⟩ : ∃ g', g = g' + 3 + 5 := ⟨g - 8, by omega⟩
              have hdp : RX12_variable (g' + 3 + 5) 7 5 1 0 (si (si w 0 7 (Int32.ofNat (t + 1))) 0 8 (Int32.ofNat 41)) = _ := dp_all (kd := kd) (wr := wr) (m := m) 5 (by omega) g' _ _ hS2
              rw [hdp, be_no]
              exact RNO.bad hS2 hO (fun _ _ h => h)
            · rw [if_neg q40]
              obtain ⟨g1, g2⟩ := ihm (d + 1) g (by omega) (by omega) (by omega) (by omega) _ (t + 1) nd ⟨hS2, by rw [gi_si1 (by omega), gi_si1 (by omega)]; exact hn, by omega, by rw [gi_si1 (by omega), gi_si1 (by omega)]; exact hs⟩
              rcases hx : rdN kd (rd kd (xp kd k) 4) mm (d + 1) (t + 1) with p | r
              · refine ⟨fun p' hp => ?_, (fun e he => nomatch he)⟩
                injection hp with hp
                subst hp
                obtain ⟨u, u1, u2, u3⟩ := g1 p hx
                rw [u1, be_no]
                exact ⟨u, rfl, u2, u3.tr hO⟩
              · obtain ⟨n1, u1, cn1, qy, r1, r3, r4, r5, r6, r7, r8, r9, r10, r11⟩ := g2 r hx
                have hlt := rdN_lt (kd := kd) (rd_lt (kd := kd) (xp_lt (kd := kd) k) 4) _ _ _ _ hx
                have he2 : r.1 ≤ m := r3.2.1
                rw [r1, be_so, show gi u1 0 8 = Int32.ofNat (d + 1) from r3.2.2.2.2, sb1_iN (by omega) (by omega), show d + 1 - 1 = d by omega]
                have hS3 : SM kd wr m (si u1 0 8 (Int32.ofNat d)) r.1 d := r3.goD (by omega)
                have hO3 : OFF (PXN nd) (si u1 0 8 (Int32.ofNat d)) w := OFF.tr (OFF.si (Or.inl ⟨rfl, by omega⟩)) (r11.tr hO)
                obtain ⟨u, v1, v2, v3, v4, v5, v6, v7, v8, v9, v10, v11⟩ := nd_ok (a1 := 7) (a2 := Int32.ofNat n1) (a3 := 281) (a4 := 0) (a5 := Int32.ofNat t) hS3 (nd := n1 + 1) (by rw [gi_si1 (by omega)]; exact r4) (by omega)
                rw [v1, bn2_so, may_ok (by omega), bn2_so]
                refine ⟨(fun p' h' => nomatch h'), fun r' h' => ?_⟩
                injection h' with h'
                subst h'
                have hA1 : AGR nd n1 (si u 45 (n1 + 1) 1) u1 := fun k' j' hk' hj hjn => by
                  rw [gi_si1 (by omega), (v11 k' j' (by unfold PN; omega)).1, gi_si1 (by omega)]
                refine ⟨n1 + 1, _, 1, qy + 1, rfl, v2.si (by omega) (by omega), by rw [gi_si1 (by omega)]; exact v3, by omega, by show n1 + 1 + 1 + t ≤ nd + r.1; omega, Or.inl rfl, gi_si0 _ _ _ _, by rw [gi_si1 (by omega)]; exact v8, ?_, ?_⟩
                · refine ⟨by omega, Or.inr (Or.inl ⟨by rw [gi_si1 (by omega)]; exact v4, rfl, gi_si0 _ _ _ _, by rw [gi_si1 (by omega)]; exact v9, n1, 29, r.2, cn1, by rw [gi_si1 (by omega)]; exact v5, by rw [gi_si1 (by omega)]; exact v6, by omega, by omega, rfl, ?_⟩)⟩
                  rw [if_pos rfl]
                  exact PEV.agr (PWR.agr k) qy _ _ _ _ _ _ r10 hA1
                · exact OFF.tr (OFF.si (Or.inr ⟨Or.inr rfl, by omega⟩)) (OFF.tr (v11.mono (fun _ _ hp => hp.x (by omega))) hO3)
          · have hc29 : ¬ (Int32.ofNat (kM (kd t)) = 281) := fun e => q29 ((kq hI.1.k50 (x := 281) (k := 29) rfl (by omega)).mp e)
            rw [if_neg q29, if_neg hc29]
            unfold fX12_level_85
            rw [if_neg (show ¬ ((5 : Int32) = 7) by decide), hI.1.2.2.2.1]
            have h9 := h151 d g hd hk (by omega) w t nd hI
            have hm9 : (match rd kd (xp kd k) 4 d t with | .inl p => .inl p | .inr r => lpR kd (rd kd (xp kd k) 4 d) (9 - 4) (9000 - r.1) r.1 r.2) = rd kd (xp kd k) 4 d t := by
              rcases rd kd (xp kd k) 4 d t with p | r
              · rfl
              · show lpR kd _ 5 (9000 - r.1) r.1 r.2 = _
                exact lpR5 _ _ _ _
            rw [hm9] at h9
            exact h9
      intro d F hd hk hF w t nd hI
      obtain ⟨i1, i2⟩ := hN 42 d F hd (by omega) hk (by omega) w t nd hI
      have hrd : rd kd (xp kd k) (4 + 1) d t = rdN kd (rd kd (xp kd k) 4) 42 d t := by
        show (if 4 = 4 then _ else _) = _
        rw [if_pos rfl]
      refine ⟨fun p hp => i1 p (by rw [← hrd]; exact rdE_l hp), fun e he => ?_⟩
      obtain ⟨evs, he⟩ := rdE_r he
      obtain ⟨n9, u9, cn9, q9, w1, w2, w3, w4, w5, w6, w7, w8, w9, w10⟩ := i2 (e, evs) (by rw [← hrd]; exact he)
      exact ⟨n9, u9, cn9, w1, w2, w3, w4, w5, w6, w7, w8, ⟨evs, q9, he, w9⟩, w10⟩
    · intro d F hd hk hF
      obtain ⟨g, rfl⟩ : ∃ g, F = g + 1 := ⟨F - 1, by omega⟩
      intro w t nd hI
      have htm : t ≤ m := hI.1.2.1
      have hmm : m ≤ 8193 := hI.1.1.1
      have hnb := hI.2.2.1
      have hc10 : ¬ (Int32.ofNat (9 - j) = 10) := fun e => by have := (hi 10 (by omega)).mp e; omega
      have hc5 : ¬ (Int32.ofNat (9 - j) = 5) := fun e => by have := (hi 5 (by omega)).mp e; omega
      have hfin : (∀ p, rd kd (xp kd k) (j + 1) d t = .inl p → RNO wr (fX12_level_85 (RX12_variable g) (Int32.ofNat (9 - j)) 1 (Int32.ofNat t) w) w (PXN nd) p)
        ∧ ∀ r, rd kd (xp kd k) (j + 1) d t = .inr r → ∃ n' u cn' q', fX12_level_85 (RX12_variable g) (Int32.ofNat (9 - j)) 1 (Int32.ofNat t) w = some (some (Int32.ofNat n'), u) ∧ SM kd wr m u r.1 d ∧ gi u 0 23 = Int32.ofNat (n' + 1) ∧ nd ≤ n' ∧ n' + 1 + t ≤ nd + r.1 ∧ (cn' = 1 ∨ cn' = 3) ∧ gi u 45 n' = Int32.ofNat cn' ∧ gi u 11 n' = -1 ∧ PEV kd u (PWR kd u sc k) sc q' nd n' d t r.2 cn' ∧ OFF (PXN nd) u w := by
        unfold fX12_level_85 rd
        rw [if_neg q5]
        by_cases q7 : j = 2
        · subst q7
          rw [if_pos (show Int32.ofNat (9 - 2) = 7 from rfl), m_kind hI.1]
          have h109 : (kd t = 33 ∨ kd t = 34) → (∀ p, (match rd kd (xp kd k) 2 d (t + 1) with | .inl p => .inl p | .inr r => lpR kd (rd kd (xp kd k) 2 d) (9 - 2) (9000 - r.1) r.1 (r.2 ++ [(1, kd t, t)])) = Sum.inl p → RNO wr (fX12_level_109 (RX12_variable g) (Int32.ofNat (9 - 2)) (Int32.ofNat t) w) w (PXN nd) p)
              ∧ ∀ r, (match rd kd (xp kd k) 2 d (t + 1) with | .inl p => .inl p | .inr r => lpR kd (rd kd (xp kd k) 2 d) (9 - 2) (9000 - r.1) r.1 (r.2 ++ [(1, kd t, t)])) = Sum.inr r → ∃ n' u cn' q', fX12_level_109 (RX12_variable g) (Int32.ofNat (9 - 2)) (Int32.ofNat t) w = some (some (Int32.ofNat n'), u) ∧ SM kd wr m u r.1 d ∧ gi u 0 23 = Int32.ofNat (n' + 1) ∧ nd ≤ n' ∧ n' + 1 + t ≤ nd + r.1 ∧ (cn' = 1 ∨ cn' = 3) ∧ gi u 45 n' = Int32.ofNat cn' ∧ gi u 11 n' = -1 ∧ PEV kd u (PWR kd u sc k) sc q' nd n' d t r.2 cn' ∧ OFF (PXN nd) u w := by
            intro hk33
            obtain ⟨hS, hn, hb, hs⟩ := hI
            have hS1 : SM kd wr m (si w 0 7 (Int32.ofNat (t + 1))) (t + 1) d := hS.goT (hS.lt (by omega))
            have hO1 : OFF (PXN nd) (si w 0 7 (Int32.ofNat (t + 1))) w := OFF.si (Or.inl ⟨rfl, by omega⟩)
            obtain ⟨g1, g2⟩ := ih (by omega) d g hd hk (by omega) _ (t + 1) nd ⟨hS1, by rw [gi_si1 (by omega)]; exact hn, by omega, by rw [gi_si1 (by omega)]; exact hs⟩
            unfold fX12_level_109
            rw [m_taken hS hd (by omega), be_so, if_pos (inb_iN (by omega) (by omega)), tc_iN (by omega)]
            dsimp only [lt]
            rw [show gi (si w 0 7 (Int32.ofNat (t + 1))) 2 t = Int32.ofNat (kM (kd t)) from (hS1.1.2.2.2.2 t htm).1]
            rcases hx : rd kd (xp kd k) 2 d (t + 1) with p | r
            · refine ⟨fun p' h' => ?_, (fun e1 h' => nomatch h')⟩
              injection h' with h'
              subst h'
              obtain ⟨u, u1, u2, u3⟩ := g1 p (by unfold rdE; rw [hx])
              have u1' : RX12_variable g 7 8 1 0 (si w 0 7 (Int32.ofNat (t + 1))) = some (none, u) := u1
              rw [u1', be_no]
              exact ⟨u, rfl, u2, u3.tr hO1⟩
            · obtain ⟨n1, u1, cn1, r1, r3, r4, r5, r6, r7, r8, r9, ⟨ey, qy, r10, r10'⟩, r11⟩ := g2 r.1 (by unfold rdE; rw [hx])
              rw [hx] at r10
              have hr2 : r = (r.1, ey) := by injection r10
              have hlt := rd_lt (kd := kd) (xp_lt (kd := kd) k) _ _ _ _ hx
              have he2 : r.1 ≤ m := r3.2.1
              have r1' : RX12_variable g 7 8 1 0 (si w 0 7 (Int32.ofNat (t + 1))) = some (some (Int32.ofNat n1), u1) := r1
              have hey : r.2 = ey := by rw [hr2]
              rw [← hey] at r10'
              rw [r1', be_so]
              obtain ⟨u, v1, v2, v3, v4, v5, v6, v7, v8, v9, v10, v11⟩ := nd_ok (a1 := 7) (a2 := Int32.ofNat n1) (a3 := Int32.ofNat (kM (kd t))) (a4 := 0) (a5 := Int32.ofNat t) r3 r4 (by omega)
              rw [v1, bn2_so, may_ok (by omega), bn2_so, if_pos (inb_iN (by omega) (by omega)), tc_iN (by omega), gi_si0, if_neg (by decide)]
              have hO : OFF (PXN nd) (si u 45 (n1 + 1) 1) w := OFF.tr (OFF.si (Or.inr ⟨Or.inr rfl, by omega⟩)) (OFF.tr (v11.mono (fun _ _ hp => hp.x (by omega))) (r11.tr hO1))
              have hA1 : AGR nd n1 (si u 45 (n1 + 1) 1) u1 := fun k' j' hk' hj hjn => by
                rw [gi_si1 (by omega), (v11 k' j' (by unfold PN; omega)).1]
              have hQ : PEV kd (si u 45 (n1 + 1) 1) (PWR kd (si u 45 (n1 + 1) 1) sc k) sc (qy + 1) nd (n1 + 1) d t (r.2 ++ [(1, kd t, t)]) 1 := by
                refine ⟨by omega, Or.inr (Or.inl ⟨by rw [gi_si1 (by omega)]; exact v4, rfl, gi_si0 _ _ _ _, by rw [gi_si1 (by omega)]; exact v9, n1, kd t, r.2, cn1, by rw [gi_si1 (by omega)]; exact v5, by rw [gi_si1 (by omega)]; exact v6, by omega, by omega, rfl, ?_⟩)⟩
                rw [if_neg (by omega)]
                exact PEV.agr (PWR.agr k) qy _ _ _ _ _ _ r10' hA1
              dsimp only
              obtain ⟨i1, i2⟩ := hloop d g hd hk (by omega) (si u 45 (n1 + 1) 1) r.1 (n1 + 1) nd t _ 1 _ ⟨v2.si (by omega) (by omega), by rw [gi_si1 (by omega)]; exact v3, by omega, by rw [gi_si1 (by omega), (v11 0 29 (by unfold PN; omega)).1, (r11 0 29 (by unfold PXN; omega)).1, gi_si1 (by omega)]; exact hs⟩ (by omega) (by omega) (by omega) hnb hQ (Or.inl rfl) (gi_si0 _ _ _ _) (by rw [gi_si1 (by omega)]; exact v8)
              refine ⟨fun p hp => ?_, fun r' hr => ?_⟩
              · obtain ⟨u9, w1, w2, w3⟩ := i1 p hp
                exact ⟨u9, w1, w2, w3.tr hO⟩
              · obtain ⟨n9, u9, cn9, q9, w1, w2, w3, w4, w5, w6, w7, w8, w9, w10⟩ := i2 r' hr
                exact ⟨n9, u9, cn9, q9, w1, w2, w3, w4, w5, w6, w7, w8, w9, w10.tr hO⟩
          rw [bn2_so]
          by_cases q33 : kd t = 33
          · rw [if_pos ((kq hI.1.k50 (x := 43) (k := 33) rfl (by omega)).mpr q33), if_pos ⟨rfl, Or.inl q33⟩]
            exact h109 (Or.inl q33)
          · have hc33 : ¬ (Int32.ofNat (kM (kd t)) = 43) := fun e => q33 ((kq hI.1.k50 (x := 43) (k := 33) rfl (by omega)).mp e)
            rw [if_neg hc33, m_kind hI.1, bn2_so]
            by_cases q34 : kd t = 34
            · rw [if_pos ((kq hI.1.k50 (x := 45) (k := 34) rfl (by omega)).mpr q34), if_pos ⟨rfl, Or.inr q34⟩]
              exact h109 (Or.inr q34)
            · have hc34 : ¬ (Int32.ofNat (kM (kd t)) = 45) := fun e => q34 ((kq hI.1.k50 (x := 45) (k := 34) rfl (by omega)).mp e)
              rw [if_neg hc34, if_neg (show ¬ (2 = 2 ∧ (kd t = 33 ∨ kd t = 34)) by omega)]
              exact h151 d g hd hk (by omega) w t nd hI
        · have hc7 : ¬ (Int32.ofNat (9 - j) = 7) := fun e => by have := (hi 7 (by omega)).mp e; omega
          rw [if_neg hc7, if_neg (show ¬ (j = 2 ∧ (kd t = 33 ∨ kd t = 34)) by omega)]
          exact h151 d g hd hk (by omega) w t nd hI
      show (∀ p, _ → RNO wr (fX12_level (RX12_variable g) (Int32.ofNat (9 - j)) 1 w) w (PXN nd) p) ∧ (∀ e, _ → RYS kd wr m _ (fX12_level (RX12_variable g) (Int32.ofNat (9 - j)) 1 w) w nd d t e)
      unfold fX12_level
      rw [if_neg hc10]
      dsimp only [lt]
      rw [if_neg hc5, hI.1.2.2.2.1]
      refine ⟨fun p hp => hfin.1 p (rdE_l hp), fun e he => ?_⟩
      obtain ⟨evs, he⟩ := rdE_r he
      obtain ⟨n9, u9, cn9, q9, w1, w2, w3, w4, w5, w6, w7, w8, w9, w10⟩ := hfin.2 _ he
      exact ⟨n9, u9, cn9, w1, w2, w3, w4, w5, w6, w7, w8, ⟨evs, q9, he, w9⟩, w10⟩
theorem can_and {a b : Nat} (ha : a = 1 ∨ a = 3) (hb : b = 1 ∨ b = 3) : Int32.ofNat a &&& Int32.ofNat b = Int32.ofNat (if a = 3 ∧ b = 3 then 3 else 1) := by
  rcases ha with rfl | rfl <;> rcases hb with rfl | rfl <;> rfl
theorem can_1 {a : Nat} (ha : a = 1 ∨ a = 3) : Int32.ofNat a &&& 1 = 1 := by
  rcases ha with rfl | rfl <;> rfl
/-- all of an EXPR -/
theorem m_whole : ∀ k d F, d ≤ 40 → 41 ≤ k + d → 20 * (42 - d) + 14 ≤ F → FUN kd wr m sc d (xw kd k d) (WRL kd sc k d) (RX12_variable F 5 1 0 0) := by
  intro k
  induction k with
  | zero => intro d F hd hk; omega
  | succ k ih =>
    have hP : ∀ d F, d ≤ 40 → 41 ≤ k + 1 + d → 20 * (42 - d) + 1 ≤ F → FUN kd wr m sc d (xp kd k d) (fun t e u lo n cn => PRI kd u (PWR kd u sc k) sc lo n d t e cn) (RX12_variable F 8 1 0 0) := by
      intro d F hd hk hF
      obtain ⟨g, rfl⟩ : ∃ g, F = g + 1 := ⟨F - 1, by omega⟩
      exact m_primary hd (by omega) (fun F' hF' hd' => ih (d + 1) F' hd' (by omega) (by omega))
    have hSm : ∀ d F, d ≤ 40 → 41 ≤ k + 1 + d → 20 * (42 - d) + 12 ≤ F → FUN kd wr m sc d (smX kd (xp kd k) d) (fun t e u lo n cn => PSM kd u k (PWR kd u sc k) sc lo n d t e cn) (RX12_variable F 6 1 0 0) := by
      intro d F hd hk hF
      obtain ⟨g, rfl⟩ : ∃ g, F = g + 1 := ⟨F - 1, by omega⟩
      have h9 : FUN kd wr m sc d (rdE kd k 9 d) (LVL kd sc k 9 d) (RX12_variable g 7 1 1 0) := m_level hP 9 (by omega) d g hd hk (by omega)
      exact fun_id h9 (fun w => rfl)
    intro d F hd hk hF
    obtain ⟨g, rfl⟩ : ∃ g, F = g + 1 := ⟨F - 1, by omega⟩
    intro w t nd hI
    have hh := hI
    obtain ⟨hS, hn, hb, hs⟩ := hI
    have htm : t ≤ m := hS.2.1
    have hmm : m ≤ 8193 := hS.1.1
    show (∀ p, whX kd (xp kd k) (xw kd k) d t = .inl p → RNO wr (fX12_whole (RX12_variable g) 1 w) w (PXN nd) p) ∧ (∀ e, whX kd (xp kd k) (xw kd k) d t = .inr e → RYS kd wr m _ (fX12_whole (RX12_variable g) 1 w) w nd d t e)
    unfold fX12_whole
    rw [if_neg (by decide)]
    dsimp only [lt]
    rw [m_kind hS, bn2_so]
    by_cases q : kd t = 15
    · have hX : whX kd (xp kd k) (xw kd k) d t = (if 40 ≤ d then .inl (t + 1) else (match xw kd k (d + 1) (t + 1) with
        | .inl p => .inl p
        | .inr e1 => if kd e1 = 16 then (match smX kd (xp kd k) (d + 1) (e1 + 1) with
          | .inl p => .inl p
          | .inr e2 => if kd e2 = 17 then xw kd k (d + 1) (e2 + 1) else .inl e2) else .inl e1)) := by
        unfold whX
        rw [if_pos q]
        rfl
      rw [hX, if_pos ((kq hS.k50 (x := 267) (k := 15) rfl (by omega)).mpr q)]
      have hS1 : SM kd wr m (si w 0 7 (Int32.ofNat (t + 1))) (t + 1) d := hS.goT (hS.lt (by omega))
      have hO1 : OFF (PXN nd) (si w 0 7 (Int32.ofNat (t + 1))) w := OFF.si (Or.inl ⟨rfl, by omega⟩)
      rw [m_taken hS hd (by omega), be_so, show gi (si w 0 7 (Int32.ofNat (t + 1))) 0 8 = Int32.ofNat d from hS1.2.2.2.2, ad1_iN, hS.2.2.2.1]
      have hS2 : SM kd wr m (si (si w 0 7 (Int32.ofNat (t + 1))) 0 8 (Int32.ofNat (d + 1))) (t + 1) (d + 1) := hS1.goD (by omega)
      have hO : OFF (PXN nd) (si (si w 0 7 (Int32.ofNat (t + 1))) 0 8 (Int32.ofNat (d + 1))) w := OFF.tr (OFF.si (Or.inl ⟨rfl, by omega⟩)) hO1
      obtain ⟨g', rfl⟩ : ∃ g', g = g' + 1 := ⟨g - 1, by omega⟩
      by_cases q40 : 40 ≤ d
      · rw [if_pos q40]
        refine ⟨fun p hp => ?_, (fun e he => nomatch he)⟩
        injection hp with hp
        subst hp
        have h41 : d + 1 = 41 := by omega
        rw [h41] at hS2 hO ⊢
        rw [dp_expr (by omega) _ _ hS2, be_no]
        exact RNO.bad hS2 hO (fun _ _ h => h)
      · rw [if_neg q40]
        have hE : FUN kd wr m sc (d + 1) (xw kd k (d + 1)) (WRL kd sc k (d + 1)) (RX12_variable (g' + 1) 4 0 0 0) := fun_id (ih (d + 1) g' (by omega) (by omega) (by omega)) (fun w => rfl)
        obtain ⟨g1, g2⟩ := hE _ (t + 1) nd ⟨hS2, by rw [gi_si1 (by omega), gi_si1 (by omega)]; exact hn, by omega, by rw [gi_si1 (by omega), gi_si1 (by omega)]; exact hs⟩
        rcases hx : xw kd k (d + 1) (t + 1) with p | e1
        · refine ⟨fun p' hp => ?_, (fun e he => nomatch he)⟩
          injection hp with hp
          subst hp
          obtain ⟨u, u1, u2, u3⟩ := g1 p hx
          rw [u1, be_no]
          exact ⟨u, rfl, u2, u3.tr hO⟩
        · obtain ⟨n1, u1, cn1, r1, r3, r4, r5, r6, r7, r8, r9, r10, r11⟩ := g2 e1 hx
          have hlt1 := xw_lt k _ _ _ hx
          have he1 : e1 ≤ m := r3.2.1
          have hOu1 : OFF (PXN nd) u1 w := r11.tr hO
          rw [r1, be_so]
          dsimp only
          by_cases q16 : kd e1 = 16
          · rw [if_pos q16, m_expect r3 (by omega) (k := 16) (x := 268) rfl (by omega) q16, be_so, if_pos (by decide)]
            have hS4 : SM kd wr m (si u1 0 7 (Int32.ofNat (e1 + 1))) (e1 + 1) (d + 1) := r3.goT (r3.lt (by omega))
            have hO4 : OFF (PXN nd) (si u1 0 7 (Int32.ofNat (e1 + 1))) w := OFF.tr (OFF.si (Or.inl ⟨rfl, by omega⟩)) hOu1
            obtain ⟨s1, s2⟩ := hSm (d + 1) (g' + 1) (by omega) (by omega) (by omega) _ (e1 + 1) (n1 + 1) ⟨hS4, by rw [gi_si1 (by omega)]; exact r4, by omega, by rw [(hO4 0 29 (by unfold PXN; omega)).1]; exact hs⟩
            rcases hy : smX kd (xp kd k) (d + 1) (e1 + 1) with p | e2
            · refine ⟨fun p' hp => ?_, (fun e he => nomatch he)⟩
              injection hp with hp
              subst hp
              obtain ⟨u, w1, w2, w3⟩ := s1 p hy
              rw [w1, be_no]
              exact ⟨u, rfl, w2, (w3.mono (fun _ _ hp => hp.le (by omega))).tr hO4⟩
            · obtain ⟨n2, u2, cn2, y1, y3, y4, y5, y6, y7, y8, y9, y10, y11⟩ := s2 e2 hy
              have hlt2 := smX_lt (xp_lt (kd := kd) k) hy
              have he2 : e2 ≤ m := y3.2.1
              have hOu2 : OFF (PXN nd) u2 w := (y11.mono (fun _ _ hp => hp.le (by omega))).tr hO4
              rw [y1, be_so]
              dsimp only
              unfold fX12_whole_88
              by_cases q17 : kd e2 = 17
              · rw [if_pos q17, m_expect y3 (by omega) (k := 17) (x := 269) rfl (by omega) q17, be_so, if_pos (inb_iN (by omega) (by omega)), tc_iN (by omega)]
                have hS5 : SM kd wr m (si u2 0 7 (Int32.ofNat (e2 + 1))) (e2 + 1) (d + 1) := y3.goT (y3.lt (by omega))
                have hO5 : OFF (PXN nd) (si u2 0 7 (Int32.ofNat (e2 + 1))) w := OFF.tr (OFF.si (Or.inl ⟨rfl, by omega⟩)) hOu2
                rw [show gi (si u2 0 7 (Int32.ofNat (e2 + 1))) 45 n2 = Int32.ofNat cn2 by rw [gi_si1 (by omega)]; exact y8, can_1 y7]
                obtain ⟨z1, z2⟩ := ih (d + 1) (g' + 1) (by omega) (by omega) (by omega) _ (e2 + 1) (n2 + 1) ⟨hS5, by rw [gi_si1 (by omega)]; exact y4, by omega, by rw [(hO5 0 29 (by unfold PXN; omega)).1]; exact hs⟩
                refine ⟨fun p hp => ?_, fun e he => ?_⟩
                · obtain ⟨u, w1, w2, w3⟩ := z1 p hp
                  rw [w1, be_no]
                  exact ⟨u, rfl, w2, (w3.mono (fun _ _ hp => hp.le (by omega))).tr hO5⟩
                · obtain ⟨n3, u3, cn3, x1, x3, x4, x5, x6, x7, x8, x9, x10, x11⟩ := z2 e he
                  have hlt3 := xw_lt k _ _ _ he
                  have he3 : e ≤ m := x3.2.1
                  have hOu3 : OFF (PXN nd) u3 w := (x11.mono (fun _ _ hp => hp.le (by omega))).tr hO5
                  rw [x1, be_so]
                  rw [show gi u3 0 8 = Int32.ofNat (d + 1) from x3.2.2.2.2, sb1_iN (by omega) (by omega), show d + 1 - 1 = d by omega]
                  have hS6 : SM kd wr m (si u3 0 8 (Int32.ofNat d)) e d := x3.goD (by omega)
                  obtain ⟨u, v1, v2, v3, v4, v5, v6, v7, v8, v9, v10, v11⟩ := nd_ok (a1 := 8) (a2 := Int32.ofNat n1) (a3 := Int32.ofNat n2) (a4 := Int32.ofNat n3) (a5 := Int32.ofNat t) hS6 (nd := n3 + 1) (by rw [gi_si1 (by omega)]; exact x4) (by omega)
                  dsimp only [lt]
                  rw [v1, bn2_so, if_pos (inb_iN (by omega) (by omega)), if_pos (inb_iN (by omega) (by omega)), tc_iN (by omega)]
                  have g45 : ∀ n', n' ≤ n3 → gi u 45 n' = gi u3 45 n' := fun n' hn' => by rw [(v11 45 n' (by unfold PN; omega)).1, gi_si1 (by omega)]
                  have a2 : gi u 45 n2 = Int32.ofNat cn2 := by
                    rw [g45 n2 (by omega), (x11 45 n2 (by unfold PXN; omega)).1, gi_si1 (by omega)]; exact y8
                  rw [a2, g45 n3 (by omega), x8, can_and y7 x7, may_ok (by omega), bn2_so]
                  have hA3 : AGR (n2 + 1) n3 (si u 45 (n3 + 1) (Int32.ofNat (if cn2 = 3 ∧ cn3 = 3 then 3 else 1))) u3 := fun k' j' hk' hj hjn => by
                    rw [gi_si1 (by omega), (v11 k' j' (by unfold PN; omega)).1, gi_si1 (by omega)]
                  have hA2 : AGR (n1 + 1) n2 (si u 45 (n3 + 1) (Int32.ofNat (if cn2 = 3 ∧ cn3 = 3 then 3 else 1))) u2 := fun k' j' hk' hj hjn => by
                    rw [gi_si1 (by omega), (v11 k' j' (by unfold PN; omega)).1, gi_si1 (by omega), (x11 k' j' (by unfold PXN; omega)).1, gi_si1 (by omega)]
                  have hA1 : AGR nd n1 (si u 45 (n3 + 1) (Int32.ofNat (if cn2 = 3 ∧ cn3 = 3 then 3 else 1))) u1 := fun k' j' hk' hj hjn => by
                    rw [gi_si1 (by omega), (v11 k' j' (by unfold PN; omega)).1, gi_si1 (by omega), (x11 k' j' (by unfold PXN; omega)).1, gi_si1 (by omega), (y11 k' j' (by unfold PXN; omega)).1, gi_si1 (by omega)]
                  refine ⟨n3 + 1, _, _, rfl, v2.si (by omega) (by omega), by rw [gi_si1 (by omega)]; exact v3, by omega, by omega, by split <;> omega, gi_si0 _ _ _ _, by rw [gi_si1 (by omega)]; exact v8, ?_, ?_⟩
                  · refine Or.inl ⟨q, by omega, by omega, by rw [gi_si1 (by omega)]; exact v4, by rw [gi_si1 (by omega)]; exact v9, gi_si0 _ _ _ _, n1, n2, n3, e1, e2, cn1, cn2, cn3, by rw [gi_si1 (by omega)]; exact v5, by rw [gi_si1 (by omega)]; exact v6, by rw [gi_si1 (by omega)]; exact v7, by omega, by omega, by omega, (PWR.agr k _ u1 _ _ _ _ _ _ r10).2 hA1, q16, ?_, q17, (PWR.agr k _ u3 _ _ _ _ _ _ x10).2 hA3, rfl⟩
                    exact (PSM.agr (kd := kd) (sc := sc) (k := k) (PWR.agr k) _ u2 _ _ _ _ _ _ y10).2 hA2
                  · exact OFF.tr (OFF.si (Or.inr ⟨Or.inr rfl, by omega⟩)) (OFF.tr (v11.mono (fun _ _ hp => hp.x (by omega))) (OFF.tr (OFF.si (Or.inl ⟨rfl, by omega⟩)) hOu3))
              · rw [if_neg q17, m_expect_no y3 (k := 17) (x := 269) rfl (by omega) (Or.inr q17) (by omega), be_no]
                refine ⟨fun p' hp => ?_, (fun e he => nomatch he)⟩
                injection hp with hp
                subst hp
                exact RNO.bad y3 hOu2 (fun _ _ h => h)
          · rw [if_neg q16, m_expect_no r3 (k := 16) (x := 268) rfl (by omega) (Or.inr q16) (by omega), be_no]
            refine ⟨fun p' hp => ?_, (fun e he => nomatch he)⟩
            injection hp with hp
            subst hp
            exact RNO.bad r3 hOu1 (fun _ _ h => h)
    · have hX : whX kd (xp kd k) (xw kd k) d t = smX kd (xp kd k) d t := by
        unfold whX
        rw [if_neg q]
      have hc : ¬ (Int32.ofNat (kM (kd t)) = 267) := fun e => q ((kq hS.k50 (x := 267) (k := 15) rfl (by omega)).mp e)
      rw [hX, if_neg hc]
      obtain ⟨s1, s2⟩ := hSm d g hd hk (by omega) w t nd hh
      refine ⟨fun p hp => ?_, fun e he => ?_⟩
      · obtain ⟨u, u1, u2⟩ := s1 p hp
        rw [u1, be_no]
        exact ⟨u, rfl, u2⟩
      · obtain ⟨n, u, cn, u1, u2, u3, u4, u5, u6, u7, u8, u9, u10⟩ := s2 e he
        rw [u1, be_so]
        exact ⟨n, u, cn, rfl, u2, u3, u4, u5, u6, u7, u8, Or.inr ⟨q, u9⟩, u10⟩
end RE
