/-! THE REFERENCE GOES OVER EXPRS: brackets, PRIMARIES, levels, all -/
section RE
variable {kd wr : Nat → Nat} {m : Nat} {sc : Int32}
theorem kq {t : Nat} (h : ∀ i, kd i ≤ 50) {k : Nat} {x : Int32} (hx : x = Int32.ofNat (kM k)) (hk : k ≤ 50) : (Int32.ofNat (kM (kd t)) = x) ↔ kd t = k := by
  rw [hx]; exact kM_eq (h t) hk
theorem SM.k50 {w : Wd} {t d : Nat} (h : SM kd wr m w t d) : ∀ i, kd i ≤ 50 := h.1.2.2.2.1
theorem SM.lt {w : Wd} {t d : Nat} (h : SM kd wr m w t d) (hk : 2 ≤ kd t) : t < m := by
  by_cases q9 : t = m
  · have := h.1.2.1; rw [← q9] at this; omega
  · have := h.2.1; omega
theorem dp_call {rc : TX12_variable} : DEP kd wr m (fun w => fX12_call rc w) := by
  intro w t h
  show fX12_call rc w = _
  unfold fX12_call
  rw [m_taken_no h (Or.inl rfl), be_no]
theorem dp_var {rc : TX12_variable} : DEP kd wr m (fun w => fX12_variable rc w) := by
  intro w t h
  show fX12_variable rc w = _
  unfold fX12_variable
  rw [m_expect_no h (k := 2) (x := 285) rfl (by omega) (Or.inl rfl) (by omega), be_no]
theorem dp_prim {rc : TX12_variable} (h0 : DEP kd wr m (rc 0 0 0 0)) (h2 : DEP kd wr m (rc 2 0 0 0)) : DEP kd wr m (fun w => fX12_primary rc 1 w) := by
  intro w t h
  show fX12_primary rc 1 w = _
  unfold fX12_primary
  dsimp only [lt]
  rw [m_kind h, bn2_so]
  by_cases q1 : kd t = 43
  · rw [if_pos ((kq h.k50 (x := 40) (k := 43) rfl (by omega)).mpr q1), m_taken_no h (Or.inl rfl), be_no]
  · rw [if_neg (fun e => q1 ((kq h.k50 (x := 40) (k := 43) rfl (by omega)).mp e))]
    by_cases q2 : kd t = 23 ∨ kd t = 24
    · rw [if_pos (q2.imp (fun q => (kq h.k50 (x := 275) (k := 23) rfl (by omega)).mpr q) (fun q => (kq h.k50 (x := 276) (k := 24) rfl (by omega)).mpr q)), m_taken_no h (Or.inl rfl), be_no]
    · rw [if_neg (fun e => q2 (e.imp (fun q => (kq h.k50 (x := 275) (k := 23) rfl (by omega)).mp q) (fun q => (kq h.k50 (x := 276) (k := 24) rfl (by omega)).mp q)))]
      by_cases q3 : kd t = 2
      · rw [if_pos ((kq h.k50 (x := 285) (k := 2) rfl (by omega)).mpr q3)]
        have hm := h.lt (by omega)
        have hmm := h.1.1
        rw [h.2.2.2.1, ad1_iN, if_pos (inb_iN (by omega) (by omega)), h2 w t h, h0 w t h]
        split
        · rw [be_no]
        · rw [be_no]
      · rw [if_neg (fun e => q3 ((kq h.k50 (x := 285) (k := 2) rfl (by omega)).mp e))]
        by_cases q4 : kd t = 3
        · rw [if_pos ((kq h.k50 (x := 286) (k := 3) rfl (by omega)).mpr q4), m_taken_no h (Or.inl rfl), be_no]
        · rw [if_neg (fun e => q4 ((kq h.k50 (x := 286) (k := 3) rfl (by omega)).mp e)), m_bad h]
          rfl
theorem dp_lev {rc : TX12_variable} {l : Nat} (hl : 1 ≤ l ∧ l ≤ 9) (h7 : DEP kd wr m (rc 7 (Int32.ofNat (l + 1)) 1 0)) : DEP kd wr m (fun w => fX12_level rc (Int32.ofNat l) 1 w) := by
  intro w t h
  show fX12_level rc (Int32.ofNat l) 1 w = _
  have hi : ∀ k : Nat, k ≤ 10 → ((Int32.ofNat l = Int32.ofNat k) ↔ l = k) := fun k hk => eq_iN (by omega) (by omega)
  have h151 : ∀ a3, fX12_level_151 rc (Int32.ofNat l) 1 a3 w = some (none, si w 0 9 (Int32.ofNat (wr t))) := by
    intro a3
    unfold fX12_level_151
    rw [ad1_iN, h7 w t h, be_no]
  have h109 : ∀ a3, fX12_level_109 rc (Int32.ofNat l) a3 w = some (none, si w 0 9 (Int32.ofNat (wr t))) := by
    intro a3
    unfold fX12_level_109
    rw [m_taken_no h (Or.inl rfl), be_no]
  have h85 : ∀ a3, fX12_level_85 rc (Int32.ofNat l) 1 a3 w = some (none, si w 0 9 (Int32.ofNat (wr t))) := by
    intro a3
    unfold fX12_level_85
    rw [m_kind h]
    simp only [bn2_so]
    rw [m_kind h]
    simp only [bn2_so, h109, h151, ite_self]
  unfold fX12_level
  rw [if_neg (fun e => by have := (hi 10 (by omega)).mp e; omega)]
  dsimp only [lt]
  rw [m_kind h]
  simp only [bn2_so, h85]
  rw [m_taken_no h (Or.inl rfl)]
  simp only [be_no, ite_self]
theorem dp_all : ∀ j, j ≤ 9 → ∀ F, DEP kd wr m (RX12_variable (F + 3 + j) 7 (Int32.ofNat (10 - j)) 1 0) := by
  intro j
  induction j with
  | zero =>
    intro _ F w t h
    show fX12_level (RX12_variable (F + 2)) (Int32.ofNat 10) 1 w = _
    unfold fX12_level
    rw [if_pos (show Int32.ofNat 10 = 10 from rfl)]
    have hp := dp_prim (kd := kd) (wr := wr) (m := m) (rc := RX12_variable (F + 1)) dp_var dp_call w t h
    have he : RX12_variable (F + 2) 8 1 0 0 w = some (none, si w 0 9 (Int32.ofNat (wr t))) := hp
    rw [he, be_no]
  | succ j ih =>
    intro hj F
    have h1 := ih (by omega) F
    rw [show 10 - j = (10 - (j + 1)) + 1 by omega] at h1
    exact dp_lev (rc := RX12_variable (F + 3 + j)) (l := 10 - (j + 1)) (by omega) h1
theorem dp_simple {F : Nat} (hF : 13 ≤ F) : DEP kd wr m (RX12_variable F 6 1 0 0) := by
  intro w t h
  obtain ⟨f, rfl⟩ : ∃ f, F = f + 3 + 9 + 1 := ⟨F - 13, by omega⟩
  show fX12_simple (RX12_variable (f + 3 + 9)) 1 w = _
  unfold fX12_simple
  have := dp_all (kd := kd) (wr := wr) (m := m) 9 (by omega) f w t h
  have he : RX12_variable (f + 3 + 9) 7 1 1 0 w = some (none, si w 0 9 (Int32.ofNat (wr t))) := this
  rw [he, be_no]
theorem dp_whole {F : Nat} (hF : 14 ≤ F) : DEP kd wr m (RX12_variable F 5 1 0 0) := by
  intro w t h
  obtain ⟨f, rfl⟩ : ∃ f, F = f + 1 := ⟨F - 1, by omega⟩
  show fX12_whole (RX12_variable f) 1 w = _
  unfold fX12_whole
  rw [if_neg (by decide)]
  dsimp only [lt]
  rw [m_kind h, bn2_so, m_taken_no h (Or.inl rfl), dp_simple (by omega) w t h, be_no, be_no, ite_self]
theorem dp_expr {F : Nat} (hF : 15 ≤ F) : DEP kd wr m (RX12_variable F 4 0 0 0) := by
  intro w t h
  obtain ⟨f, rfl⟩ : ∃ f, F = f + 1 := ⟨F - 1, by omega⟩
  show fX12_expr (RX12_variable f) w = _
  unfold fX12_expr
  rw [dp_whole (by omega) w t h, be_no]
/-- a row in brackets, from behind the opening one -/
theorem idx_row {rc : TX12_variable} {k d : Nat} {tk : Int32} (hd : d + 1 ≤ 40) (hE : FUN kd wr m sc (d + 1) (xw kd k (d + 1)) (fun t e u lo n cn => PWR kd u sc k lo n (d + 1) t e cn) (rc 4 0 0 0)) {w : Wd} {s nd : Nat} (h : INS kd wr m sc w s (d + 1) nd) :
   (∀ p, br_ kd (xw kd k (d + 1)) 46 s = .inl p → RNO wr (oX12_indices_23 rc FU tk (-1) (-1) 0 w) w (PXN nd) p)
   ∧ ∀ e, br_ kd (xw kd k (d + 1)) 46 s = .inr e → ∃ xs u nn e1, oX12_indices_23 rc FU tk (-1) (-1) 0 w = some (some (Int32.ofNat nn), u) ∧ SM kd wr m u e d ∧ gi u 0 23 = Int32.ofNat (nn + 1) ∧ nd ≤ nn ∧ nn + 1 + s ≤ nd + e ∧ gi u 7 nn = 4 ∧ gi u 8 nn = Int32.ofNat (xs.headD 0) ∧ gi u 9 nn = Int32.ofNat xs.length ∧ gi u 11 nn = -1 ∧ gi u 12 nn = tk ∧ gi u 13 nn = sc ∧ rowR kd u (PWR kd u sc k) xs nd (d + 1) s e1 ∧ (∀ x ∈ xs, x < nn) ∧ kd e1 = 46 ∧ e = e1 + 1 ∧ OFF (PXN nd) u w := by
  obtain ⟨g1, g2⟩ := hE w s nd h
  have hs : s ≤ m := h.1.2.1
  have hmm : m ≤ 8193 := h.1.1.1
  obtain ⟨f, hf⟩ := FU_ge (k := 8999 - s + 1) (by omega)
  rw [hf, ← Nat.add_assoc]
  have hst : oX12_indices_23 rc (f + (8999 - s) + 1) tk (-1) (-1) 0 w = fX12_indices_23 rc (oX12_indices_23 rc (f + (8999 - s))) tk (-1) (-1) 0 w := rfl
  rw [hst]
  unfold fX12_indices_23 br_
  rw [show 9000 - s = 8999 - s + 1 by omega]
  unfold rw_
  rcases hx : xw kd k (d + 1) s with p | e
  · refine ⟨fun p' h' => ?_, (fun e1 h' => nomatch h')⟩
    injection h' with h'
    subst h'
    obtain ⟨u, u1, u2, u3⟩ := g1 p hx
    rw [u1, be_no]
    exact ⟨u, rfl, u2, u3⟩
  · obtain ⟨n1, u1, cn, r1, r2, r3, r4, r5, r6, r7, r8, r9, r10⟩ := g2 e hx
    rw [r1, be_so, if_neg (by decide)]
    have hnd := h.2.2.1
    have hlt := xw_lt k _ _ _ hx
    have hem : e ≤ m := r2.2.1
    unfold fX12_indices_48
    dsimp only [lt]
    rw [show (0 : Int32) + 1 = Int32.ofNat 1 from rfl]
    by_cases q : kd e = 40
    · rw [if_pos q, m_skip r2 hd (k := 40) (x := 44) rfl (by omega) q, be_so, if_pos rfl]
      have hS2 : SM kd wr m (si u1 0 7 (Int32.ofNat (e + 1))) (e + 1) (d + 1) := r2.goT (r2.lt (by omega))
      have hI : INS kd wr m sc (si u1 0 7 (Int32.ofNat (e + 1))) (e + 1) (d + 1) (n1 + 1) := ⟨hS2, by rw [gi_si1 (by omega)]; exact r3, by omega, by rw [gi_si1 (by omega), (r10 0 29 (by unfold PXN; omega)).1]; exact h.2.2.2⟩
      obtain ⟨i1, i2⟩ := idx_lp (tk := tk) hd hE (8999 - s) f _ (e + 1) (n1 + 1) n1 n1 1 hI (by omega) (by omega) (by omega) (by omega)
      have hO2 : OFF (PXN nd) (si u1 0 7 (Int32.ofNat (e + 1))) w := OFF.tr (OFF.si (Or.inl ⟨rfl, by omega⟩)) r10
      have hPL : ∀ a b, PXL (n1 + 1) n1 a b → PXN nd a b := fun a b hp => by unfold PXL PXN at *; omega
      rcases hy : rw_ kd (xw kd k (d + 1)) (8999 - s) (e + 1) with p | e2
      · refine ⟨fun p' h' => ?_, (fun e1 h' => nomatch h')⟩
        injection h' with h'
        subst h'
        obtain ⟨u, v1, v2, v3⟩ := i1 p hy
        exact ⟨u, v1, v2, (v3.mono hPL).tr hO2⟩
      · dsimp only
        by_cases q2 : kd e2 = 46
        · rw [if_pos q2]
          refine ⟨(fun p' h' => nomatch h'), fun e3 h' => ?_⟩
          injection h' with h'
          subst h'
          obtain ⟨xs, u, nn, v1, v2, v3, v4, v5, v6, v7, v8, v9, v10, v11, v12, v13, v14, v15⟩ := (i2 e2 hy).2 q2
          have hagr : AGR nd n1 u u1 := fun k' j hk' hj hjn => by
            rw [(v15 k' j (by unfold PXL PXN; omega)).1, gi_si1 (by omega)]
          cases xs with
          | nil => exact absurd rfl v11
          | cons y ys =>
            have hy' := v14 y List.mem_cons_self
            refine ⟨n1 :: y :: ys, u, nn, e2, v1, v2, v3, by omega, by omega, v5, v6, ?_, v8, v9, v10, ?_, ?_, q2, rfl, (v15.mono hPL).tr hO2⟩
            · rw [v7, show (n1 :: y :: ys).length = 1 + (y :: ys).length by (simp only [List.length_cons]; omega)]
            · exact ⟨e, ⟨cn, (PWR.agr k u u1 _ _ _ _ _ _ r9).2 hagr⟩, q, v12, by omega, by omega, v13⟩
            · intro x hx'
              rcases List.mem_cons.mp hx' with rfl | hx'
              · omega
              · exact (v14 x hx').2
        · rw [if_neg q2]
          refine ⟨fun p' h' => ?_, (fun e1 h' => nomatch h')⟩
          injection h' with h'
          subst h'
          obtain ⟨u, v1, v2, v3⟩ := (i2 e2 hy).1 q2
          exact ⟨u, v1, v2, (v3.mono hPL).tr hO2⟩
    · rw [if_neg q, m_skip_no r2 (k := 40) (x := 44) rfl (by omega) q, be_so, if_neg (by decide)]
      have h8 : gi u1 0 8 = Int32.ofNat (d + 1) := r2.2.2.2.2
      rw [h8, sb1_iN (by omega) (by omega), show d + 1 - 1 = d by omega]
      have hS3 : SM kd wr m (si u1 0 8 (Int32.ofNat d)) e d := r2.goD (by omega)
      have hO3 : OFF (PXN nd) (si u1 0 8 (Int32.ofNat d)) w := OFF.tr (OFF.si (Or.inl ⟨rfl, by omega⟩)) r10
      dsimp only
      by_cases q2 : kd e = 46
      · rw [if_pos q2]
        refine ⟨(fun p' h' => nomatch h'), fun e3 h' => ?_⟩
        injection h' with h'
        subst h'
        rw [m_expect hS3 (by omega) (k := 46) (x := 93) rfl (by omega) q2, be_so]
        have hS4 : SM kd wr m (si (si u1 0 8 (Int32.ofNat d)) 0 7 (Int32.ofNat (e + 1))) (e + 1) d := hS3.goT (hS3.lt (by omega))
        have hc : gi (si (si u1 0 8 (Int32.ofNat d)) 0 7 (Int32.ofNat (e + 1))) 0 23 = Int32.ofNat (n1 + 1) := by
          rw [gi_si1 (by omega), gi_si1 (by omega)]; exact r3
        obtain ⟨u, v1, v2, v3, v4, v5, v6, v7, v8, v9, v10, v11⟩ := nd_ok (a1 := 4) (a2 := Int32.ofNat n1) (a3 := Int32.ofNat 1) (a4 := 0) (a5 := tk) hS4 hc (by omega)
        rw [v1, bn2_so]
        have hagr : AGR nd n1 u u1 := fun k' j hk' hj hjn => by
          rw [(v11 k' j (by unfold PN; omega)).1, gi_si1 (by omega), gi_si1 (by omega)]
        refine ⟨[n1], u, n1 + 1, e, rfl, v2, v3, by omega, by omega, v4, v5, v6, v8, v9, ?_, ?_, ?_, q2, rfl, ?_⟩
        · rw [v10, gi_si1 (by omega), gi_si1 (by omega), (r10 0 29 (by unfold PXN; omega)).1]; exact h.2.2.2
        · refine ⟨⟨cn, (PWR.agr k u u1 _ _ _ _ _ _ r9).2 hagr⟩, ?_⟩
          rw [(v11 11 n1 (by unfold PN; omega)).1, gi_si1 (by omega), gi_si1 (by omega)]
          exact r8
        · intro x hx'
          rw [List.mem_singleton.mp hx']
          omega
        · exact OFF.tr (v11.mono (fun a b hp => by unfold PXN; unfold PN at hp; omega)) (OFF.tr (OFF.si (Or.inl ⟨rfl, by omega⟩)) hO3)
      · rw [if_neg q2]
        refine ⟨fun p' h' => ?_, (fun e1 h' => nomatch h')⟩
        injection h' with h'
        subst h'
        rw [m_expect_no hS3 (k := 46) (x := 93) rfl (by omega) (Or.inr q2) (by omega), be_no]
        exact ⟨_, rfl, gi_si0 _ _ _ _, OFF.tr (OFF.si (Or.inl ⟨rfl, by omega⟩)) hO3⟩
/-- a row in brackets, from behind the opening one -/
theorem cal_row {rc : TX12_variable} {k d : Nat} {tk : Int32} (hd : d + 1 ≤ 40) (hE : FUN kd wr m sc (d + 1) (xw kd k (d + 1)) (fun t e u lo n cn => PWR kd u sc k lo n (d + 1) t e cn) (rc 4 0 0 0)) {w : Wd} {s nd : Nat} (h : INS kd wr m sc w s (d + 1) nd) :
   (∀ p, br_ kd (xw kd k (d + 1)) 44 s = .inl p → RNO wr (oX12_call_28 rc FU tk (-1) (-1) 0 w) w (PXN nd) p)
   ∧ ∀ e, br_ kd (xw kd k (d + 1)) 44 s = .inr e → ∃ xs u nn e1, oX12_call_28 rc FU tk (-1) (-1) 0 w = some (some (Int32.ofNat nn), u) ∧ SM kd wr m u e d ∧ gi u 0 23 = Int32.ofNat (nn + 1) ∧ nd ≤ nn ∧ nn + 1 + s ≤ nd + e ∧ gi u 7 nn = 5 ∧ gi u 8 nn = Int32.ofNat (xs.headD 0) ∧ gi u 9 nn = Int32.ofNat xs.length ∧ gi u 11 nn = -1 ∧ gi u 12 nn = tk ∧ gi u 13 nn = sc ∧ rowR kd u (PWR kd u sc k) xs nd (d + 1) s e1 ∧ (∀ x ∈ xs, x < nn) ∧ kd e1 = 44 ∧ e = e1 + 1 ∧ OFF (PXN nd) u w := by
  obtain ⟨g1, g2⟩ := hE w s nd h
  have hs : s ≤ m := h.1.2.1
  have hmm : m ≤ 8193 := h.1.1.1
  obtain ⟨f, hf⟩ := FU_ge (k := 8999 - s + 1) (by omega)
  rw [hf, ← Nat.add_assoc]
  have hst : oX12_call_28 rc (f + (8999 - s) + 1) tk (-1) (-1) 0 w = fX12_call_28 rc (oX12_call_28 rc (f + (8999 - s))) tk (-1) (-1) 0 w := rfl
  rw [hst]
  unfold fX12_call_28 br_
  rw [show 9000 - s = 8999 - s + 1 by omega]
  unfold rw_
  rcases hx : xw kd k (d + 1) s with p | e
  · refine ⟨fun p' h' => ?_, (fun e1 h' => nomatch h')⟩
    injection h' with h'
    subst h'
    obtain ⟨u, u1, u2, u3⟩ := g1 p hx
    rw [u1, be_no]
    exact ⟨u, rfl, u2, u3⟩
  · obtain ⟨n1, u1, cn, r1, r2, r3, r4, r5, r6, r7, r8, r9, r10⟩ := g2 e hx
    rw [r1, be_so, if_neg (by decide)]
    have hnd := h.2.2.1
    have hlt := xw_lt k _ _ _ hx
    have hem : e ≤ m := r2.2.1
    unfold fX12_call_53
    dsimp only [lt]
    rw [show (0 : Int32) + 1 = Int32.ofNat 1 from rfl]
    by_cases q : kd e = 40
    · rw [if_pos q, m_skip r2 hd (k := 40) (x := 44) rfl (by omega) q, be_so, if_pos rfl]
      have hS2 : SM kd wr m (si u1 0 7 (Int32.ofNat (e + 1))) (e + 1) (d + 1) := r2.goT (r2.lt (by omega))
      have hI : INS kd wr m sc (si u1 0 7 (Int32.ofNat (e + 1))) (e + 1) (d + 1) (n1 + 1) := ⟨hS2, by rw [gi_si1 (by omega)]; exact r3, by omega, by rw [gi_si1 (by omega), (r10 0 29 (by unfold PXN; omega)).1]; exact h.2.2.2⟩
      obtain ⟨i1, i2⟩ := cal_lp (tk := tk) hd hE (8999 - s) f _ (e + 1) (n1 + 1) n1 n1 1 hI (by omega) (by omega) (by omega) (by omega)
      have hO2 : OFF (PXN nd) (si u1 0 7 (Int32.ofNat (e + 1))) w := OFF.tr (OFF.si (Or.inl ⟨rfl, by omega⟩)) r10
      have hPL : ∀ a b, PXL (n1 + 1) n1 a b → PXN nd a b := fun a b hp => by unfold PXL PXN at *; omega
      rcases hy : rw_ kd (xw kd k (d + 1)) (8999 - s) (e + 1) with p | e2
      · refine ⟨fun p' h' => ?_, (fun e1 h' => nomatch h')⟩
        injection h' with h'
        subst h'
        obtain ⟨u, v1, v2, v3⟩ := i1 p hy
        exact ⟨u, v1, v2, (v3.mono hPL).tr hO2⟩
      · dsimp only
        by_cases q2 : kd e2 = 44
        · rw [if_pos q2]
          refine ⟨(fun p' h' => nomatch h'), fun e3 h' => ?_⟩
          injection h' with h'
          subst h'
          obtain ⟨xs, u, nn, v1, v2, v3, v4, v5, v6, v7, v8, v9, v10, v11, v12, v13, v14, v15⟩ := (i2 e2 hy).2 q2
          have hagr : AGR nd n1 u u1 := fun k' j hk' hj hjn => by
            rw [(v15 k' j (by unfold PXL PXN; omega)).1, gi_si1 (by omega)]
          cases xs with
          | nil => exact absurd rfl v11
          | cons y ys =>
            have hy' := v14 y List.mem_cons_self
            refine ⟨n1 :: y :: ys, u, nn, e2, v1, v2, v3, by omega, by omega, v5, v6, ?_, v8, v9, v10, ?_, ?_, q2, rfl, (v15.mono hPL).tr hO2⟩
            · rw [v7, show (n1 :: y :: ys).length = 1 + (y :: ys).length by (simp only [List.length_cons]; omega)]
            · exact ⟨e, ⟨cn, (PWR.agr k u u1 _ _ _ _ _ _ r9).2 hagr⟩, q, v12, by omega, by omega, v13⟩
            · intro x hx'
              rcases List.mem_cons.mp hx' with rfl | hx'
              · omega
              · exact (v14 x hx').2
        · rw [if_neg q2]
          refine ⟨fun p' h' => ?_, (fun e1 h' => nomatch h')⟩
          injection h' with h'
          subst h'
          obtain ⟨u, v1, v2, v3⟩ := (i2 e2 hy).1 q2
          exact ⟨u, v1, v2, (v3.mono hPL).tr hO2⟩
    · rw [if_neg q, m_skip_no r2 (k := 40) (x := 44) rfl (by omega) q, be_so, if_neg (by decide)]
      have h8 : gi u1 0 8 = Int32.ofNat (d + 1) := r2.2.2.2.2
      rw [h8, sb1_iN (by omega) (by omega), show d + 1 - 1 = d by omega]
      have hS3 : SM kd wr m (si u1 0 8 (Int32.ofNat d)) e d := r2.goD (by omega)
      have hO3 : OFF (PXN nd) (si u1 0 8 (Int32.ofNat d)) w := OFF.tr (OFF.si (Or.inl ⟨rfl, by omega⟩)) r10
      dsimp only
      by_cases q2 : kd e = 44
      · rw [if_pos q2]
        refine ⟨(fun p' h' => nomatch h'), fun e3 h' => ?_⟩
        injection h' with h'
        subst h'
        rw [m_expect hS3 (by omega) (k := 44) (x := 41) rfl (by omega) q2, be_so]
        have hS4 : SM kd wr m (si (si u1 0 8 (Int32.ofNat d)) 0 7 (Int32.ofNat (e + 1))) (e + 1) d := hS3.goT (hS3.lt (by omega))
        have hc : gi (si (si u1 0 8 (Int32.ofNat d)) 0 7 (Int32.ofNat (e + 1))) 0 23 = Int32.ofNat (n1 + 1) := by
          rw [gi_si1 (by omega), gi_si1 (by omega)]; exact r3
        obtain ⟨u, v1, v2, v3, v4, v5, v6, v7, v8, v9, v10, v11⟩ := nd_ok (a1 := 5) (a2 := Int32.ofNat n1) (a3 := Int32.ofNat 1) (a4 := 0) (a5 := tk) hS4 hc (by omega)
        rw [v1, bn2_so]
        have hagr : AGR nd n1 u u1 := fun k' j hk' hj hjn => by
          rw [(v11 k' j (by unfold PN; omega)).1, gi_si1 (by omega), gi_si1 (by omega)]
        refine ⟨[n1], u, n1 + 1, e, rfl, v2, v3, by omega, by omega, v4, v5, v6, v8, v9, ?_, ?_, ?_, q2, rfl, ?_⟩
        · rw [v10, gi_si1 (by omega), gi_si1 (by omega), (r10 0 29 (by unfold PXN; omega)).1]; exact h.2.2.2
        · refine ⟨⟨cn, (PWR.agr k u u1 _ _ _ _ _ _ r9).2 hagr⟩, ?_⟩
          rw [(v11 11 n1 (by unfold PN; omega)).1, gi_si1 (by omega), gi_si1 (by omega)]
          exact r8
        · intro x hx'
          rw [List.mem_singleton.mp hx']
          omega
        · exact OFF.tr (v11.mono (fun a b hp => by unfold PXN; unfold PN at hp; omega)) (OFF.tr (OFF.si (Or.inl ⟨rfl, by omega⟩)) hO3)
      · rw [if_neg q2]
        refine ⟨fun p' h' => ?_, (fun e1 h' => nomatch h')⟩
        injection h' with h'
        subst h'
        rw [m_expect_no hS3 (k := 44) (x := 41) rfl (by omega) (Or.inr q2) (by omega), be_no]
        exact ⟨_, rfl, gi_si0 _ _ _ _, OFF.tr (OFF.si (Or.inl ⟨rfl, by omega⟩)) hO3⟩
end RE
