/-! THE REFERENCE GOES OVER EXPRS: PRIMARIES, levels, all -/
section RE
variable {kd wr : Nat → Nat} {m : Nat} {sc : Int32}
abbrev WRL (kd : Nat → Nat) (sc : Int32) (k d : Nat) : Nat → Nat → Wd → Nat → Nat → Nat → Prop := fun t e u lo n cn => PWR kd u sc k lo n d t e cn
theorem fun_id {d : Nat} {f : Nat → Sum Nat Nat} {R : Nat → Nat → Wd → Nat → Nat → Nat → Prop} {r r' : Wd → Option (Option Int32 × Wd)} (h : FUN kd wr m sc d f R r) (hr : ∀ w, r' w = be (r w) fun x u => some (some x, u)) : FUN kd wr m sc d f R r' := by
  intro w t nd hI
  obtain ⟨g1, g2⟩ := h w t nd hI
  refine ⟨fun p hp => ?_, fun e he => ?_⟩
  · obtain ⟨u, u1, u2⟩ := g1 p hp
    exact ⟨u, by rw [hr, u1, be_no], u2⟩
  · obtain ⟨n, u, cn, u1, u2⟩ := g2 e he
    exact ⟨n, u, cn, by rw [hr, u1, be_so], u2⟩
theorem may_ok {u : Wd} {n : Nat} {v : Int32} (hn : n < 24000) : fX12_may (Int32.ofNat n) v u = some (Int32.ofNat n, si u 45 n v) := by
  unfold fX12_may
  rw [if_pos (inb_iN hn (by omega)), tc_iN (by omega)]
  rfl
/-- what brackets come to -/
def BRK (kd wr : Nat → Nat) (m : Nat) (sc : Int32) (k d c : Nat) (so tk : Int32) (s : Nat) (res : Option (Option Int32 × Wd)) (w : Wd) (nd : Nat) : Prop :=
   (∀ p, br_ kd (xw kd k (d + 1)) c s = .inl p → RNO wr res w (PXN nd) p)
   ∧ ∀ e, br_ kd (xw kd k (d + 1)) c s = .inr e → ∃ xs u nn e1, res = some (some (Int32.ofNat nn), u) ∧ SM kd wr m u e d ∧ gi u 0 23 = Int32.ofNat (nn + 1) ∧ nd ≤ nn ∧ nn + 1 + s ≤ nd + e ∧ gi u 7 nn = so ∧ gi u 8 nn = Int32.ofNat (xs.headD 0) ∧ gi u 9 nn = Int32.ofNat xs.length ∧ gi u 11 nn = -1 ∧ gi u 12 nn = tk ∧ gi u 13 nn = sc ∧ rowR kd u (PWR kd u sc k) xs nd (d + 1) s e1 ∧ (∀ x ∈ xs, x < nn) ∧ kd e1 = c ∧ e = e1 + 1 ∧ OFF (PXN nd) u w
theorem BRK.off {k d c s nd : Nat} {so tk : Int32} {res : Option (Option Int32 × Wd)} {w w' : Wd} (h : BRK kd wr m sc k d c so tk s res w nd) (hO : OFF (PXN nd) w w') : BRK kd wr m sc k d c so tk s res w' nd := by
  refine ⟨fun p hp => ?_, fun e he => ?_⟩
  · obtain ⟨u, u1, u2, u3⟩ := h.1 p hp
    exact ⟨u, u1, u2, u3.tr hO⟩
  · obtain ⟨xs, u, nn, e1, v1, v2, v3, v4, v5, v6, v7, v8, v9, v10, v11, v12, v13, v14, v15, v16⟩ := h.2 e he
    exact ⟨xs, u, nn, e1, v1, v2, v3, v4, v5, v6, v7, v8, v9, v10, v11, v12, v13, v14, v15, v16.tr hO⟩
theorem m_indices {rc : TX12_variable} {k d t nd : Nat} {tk : Int32} {w : Wd} (hE : d + 1 ≤ 40 → FUN kd wr m sc (d + 1) (xw kd k (d + 1)) (WRL kd sc k (d + 1)) (rc 4 0 0 0)) (hD : DEP kd wr m (rc 4 0 0 0)) (hd : d ≤ 40) (h : INS kd wr m sc w t d nd) (hk : kd t = 45) :
    (d = 40 → RNO wr (fX12_indices rc tk w) w (PXN nd) (t + 1)) ∧ (d + 1 ≤ 40 → BRK kd wr m sc k d 46 4 tk (t + 1) (fX12_indices rc tk w) w nd) := by
  obtain ⟨hS, hn, hb, hs⟩ := h
  unfold fX12_indices
  rw [m_taken hS hd (by omega), be_so]
  dsimp only [lt]
  rw [show gi (si w 0 7 (Int32.ofNat (t + 1))) 0 8 = Int32.ofNat d by (rw [gi_si1 (by omega)]; exact hS.2.2.2.2), ad1_iN]
  have hS1 : SM kd wr m (si w 0 7 (Int32.ofNat (t + 1))) (t + 1) d := hS.goT (hS.lt (by omega))
  have hS2 : SM kd wr m (si (si w 0 7 (Int32.ofNat (t + 1))) 0 8 (Int32.ofNat (d + 1))) (t + 1) (d + 1) := hS1.goD (by omega)
  have hO : OFF (PXN nd) (si (si w 0 7 (Int32.ofNat (t + 1))) 0 8 (Int32.ofNat (d + 1))) w := OFF.tr (OFF.si (Or.inl ⟨rfl, by omega⟩)) (OFF.si (Or.inl ⟨rfl, by omega⟩))
  refine ⟨fun h40 => ?_, fun h39 => ?_⟩
  · subst h40
    obtain ⟨f, hf⟩ := FU_ge (k := 1) (by omega)
    rw [hf]
    show RNO wr (fX12_indices_23 rc (oX12_indices_23 rc f) tk (-1) (-1) 0 _) w (PXN nd) (t + 1)
    unfold fX12_indices_23
    rw [hD _ _ hS2, be_no]
    exact RNO.bad hS2 hO (fun _ _ h => h)
  · exact BRK.off (idx_row h39 (hE h39) ⟨hS2, by rw [gi_si1 (by omega), gi_si1 (by omega)]; exact hn, by omega, by rw [gi_si1 (by omega), gi_si1 (by omega)]; exact hs⟩) hO
theorem m_call {rc : TX12_variable} {k d t nd : Nat} {w : Wd} (hE : d + 1 ≤ 40 → FUN kd wr m sc (d + 1) (xw kd k (d + 1)) (WRL kd sc k (d + 1)) (rc 4 0 0 0)) (hD : DEP kd wr m (rc 4 0 0 0)) (hd : d ≤ 40) (h : INS kd wr m sc w t d nd) (hk : kd t = 2) (hk2 : kd (t + 1) = 43) :
    (d = 40 → RNO wr (fX12_call rc w) w (PXN nd) (t + 2)) ∧ (d + 1 ≤ 40 → BRK kd wr m sc k d 44 5 (Int32.ofNat t) (t + 2) (fX12_call rc w) w nd) := by
  obtain ⟨hS, hn, hb, hs⟩ := h
  unfold fX12_call
  have hS1 : SM kd wr m (si w 0 7 (Int32.ofNat (t + 1))) (t + 1) d := hS.goT (hS.lt (by omega))
  rw [m_taken hS hd (by omega), be_so, m_taken hS1 hd (by omega), be_so]
  dsimp only [lt]
  have hS1' : SM kd wr m (si (si w 0 7 (Int32.ofNat (t + 1))) 0 7 (Int32.ofNat (t + 2))) (t + 2) d := hS1.goT (hS1.lt (by omega))
  rw [show gi (si (si w 0 7 (Int32.ofNat (t + 1))) 0 7 (Int32.ofNat (t + 1 + 1))) 0 8 = Int32.ofNat d from hS1'.2.2.2.2, ad1_iN]
  have hS2 : SM kd wr m (si (si (si w 0 7 (Int32.ofNat (t + 1))) 0 7 (Int32.ofNat (t + 1 + 1))) 0 8 (Int32.ofNat (d + 1))) (t + 2) (d + 1) := hS1'.goD (by omega)
  have hO : OFF (PXN nd) (si (si (si w 0 7 (Int32.ofNat (t + 1))) 0 7 (Int32.ofNat (t + 1 + 1))) 0 8 (Int32.ofNat (d + 1))) w := OFF.tr (OFF.si (Or.inl ⟨rfl, by omega⟩)) (OFF.tr (OFF.si (Or.inl ⟨rfl, by omega⟩)) (OFF.si (Or.inl ⟨rfl, by omega⟩)))
  refine ⟨fun h40 => ?_, fun h39 => ?_⟩
  · subst h40
    obtain ⟨f, hf⟩ := FU_ge (k := 1) (by omega)
    rw [hf]
    show RNO wr (fX12_call_28 rc (oX12_call_28 rc f) (Int32.ofNat t) (-1) (-1) 0 _) w (PXN nd) (t + 2)
    unfold fX12_call_28
    rw [hD _ _ hS2, be_no]
    exact RNO.bad hS2 hO (fun _ _ h => h)
  · exact BRK.off (cal_row h39 (hE h39) ⟨hS2, by rw [gi_si1 (by omega), gi_si1 (by omega), gi_si1 (by omega)]; exact hn, by omega, by rw [gi_si1 (by omega), gi_si1 (by omega), gi_si1 (by omega)]; exact hs⟩) hO
/-- a VARIABLE: its node without what it can be -/
theorem m_variable {rc rc' : TX12_variable} {k d t nd : Nat} {w : Wd} (h1 : ∀ tk w, rc 1 tk 0 0 w = fX12_indices rc' tk w) (hE : d + 1 ≤ 40 → FUN kd wr m sc (d + 1) (xw kd k (d + 1)) (WRL kd sc k (d + 1)) (rc' 4 0 0 0)) (hD : DEP kd wr m (rc' 4 0 0 0)) (hd : d ≤ 40) (h : INS kd wr m sc w t d nd) (hk : kd t = 2) :
    (kd (t + 1) = 45 → (d = 40 → RNO wr (fX12_variable rc w) w (PXN nd) (t + 2)) ∧ (d + 1 ≤ 40 → BRK kd wr m sc k d 46 4 (Int32.ofNat t) (t + 2) (fX12_variable rc w) w nd))
    ∧ (kd (t + 1) ≠ 45 → ∃ u, fX12_variable rc w = some (some (Int32.ofNat nd), u) ∧ SM kd wr m u (t + 1) d ∧ gi u 0 23 = Int32.ofNat (nd + 1) ∧ gi u 7 nd = 3 ∧ gi u 11 nd = -1 ∧ gi u 12 nd = Int32.ofNat t ∧ gi u 13 nd = sc ∧ OFF (PXN nd) u w) := by
  obtain ⟨hS, hn, hb, hs⟩ := h
  unfold fX12_variable
  have hS1 : SM kd wr m (si w 0 7 (Int32.ofNat (t + 1))) (t + 1) d := hS.goT (hS.lt (by omega))
  have hO1 : OFF (PXN nd) (si w 0 7 (Int32.ofNat (t + 1))) w := OFF.si (Or.inl ⟨rfl, by omega⟩)
  rw [m_expect hS hd (k := 2) (x := 285) rfl (by omega) hk, be_so, m_kind hS1, bn2_so]
  refine ⟨fun q => ?_, fun q => ?_⟩
  · rw [if_pos ((kq hS.k50 (x := 91) (k := 45) rfl (by omega)).mpr q), h1]
    obtain ⟨g1, g2⟩ := m_indices (tk := Int32.ofNat t) hE hD hd (nd := nd) ⟨hS1, (gi_si1 (by omega)).trans hn, by omega, (gi_si1 (by omega)).trans hs⟩ q
    refine ⟨fun h40 => ?_, fun h39 => ?_⟩
    · obtain ⟨u, u1, u2, u3⟩ := g1 h40
      rw [u1, be_no]
      exact ⟨u, rfl, u2, u3.tr hO1⟩
    · have g3 := (g2 h39).off hO1
      refine ⟨fun p hp => ?_, fun e he => ?_⟩
      · obtain ⟨u, u1, u2, u3⟩ := g3.1 p hp
        rw [u1, be_no]
        exact ⟨u, rfl, u2, u3⟩
      · obtain ⟨xs, u, nn, e1, v1, v2⟩ := g3.2 e he
        rw [v1, be_so]
        exact ⟨xs, u, nn, e1, rfl, v2⟩
  · rw [if_neg (fun e => q ((kq hS.k50 (x := 91) (k := 45) rfl (by omega)).mp e))]
    have hmm : m ≤ 8193 := hS.1.1
    have htm : t ≤ m := hS.2.1
    obtain ⟨u, v1, v2, v3, v4, v5, v6, v7, v8, v9, v10, v11⟩ := nd_ok (a1 := 3) (a2 := 0) (a3 := 0) (a4 := 0) (a5 := Int32.ofNat t) hS1 (nd := nd) (by rw [gi_si1 (by omega)]; exact hn) (by omega)
    rw [v1, bn2_so]
    exact ⟨u, rfl, v2, v3, v4, v8, v9, by rw [v10, gi_si1 (by omega)]; exact hs, OFF.tr (v11.mono (fun _ _ hp => hp.x (Nat.le_refl _))) hO1⟩
theorem m_primary {F k d : Nat} (hd : d ≤ 40) (hF : 20 * (42 - d) ≤ F) (hW : ∀ F, 20 * (41 - d) + 14 ≤ F → d + 1 ≤ 40 → FUN kd wr m sc (d + 1) (xw kd k (d + 1)) (WRL kd sc k (d + 1)) (RX12_variable F 5 1 0 0)) : FUN kd wr m sc d (xp kd k d) (fun t e u lo n cn => PRI kd u (PWR kd u sc k) sc lo n d t e cn) (RX12_variable (F + 1) 8 1 0 0) := by
  obtain ⟨g, rfl⟩ : ∃ g, F = g + 3 := ⟨F - 3, by omega⟩
  have hE1 : d + 1 ≤ 40 → FUN kd wr m sc (d + 1) (xw kd k (d + 1)) (WRL kd sc k (d + 1)) (RX12_variable (g + 2) 4 0 0 0) := fun h => fun_id (hW (g + 1) (by omega) h) (fun w => rfl)
  have hE2 : d + 1 ≤ 40 → FUN kd wr m sc (d + 1) (xw kd k (d + 1)) (WRL kd sc k (d + 1)) (RX12_variable (g + 1) 4 0 0 0) := fun h => fun_id (hW g (by omega) h) (fun w => rfl)
  have hD1 : DEP kd wr m (RX12_variable (g + 2) 4 0 0 0) := dp_expr (by omega)
  have hD2 : DEP kd wr m (RX12_variable (g + 1) 4 0 0 0) := dp_expr (by omega)
  intro w t nd h
  have hh := h
  obtain ⟨hS, hn, hb, hs⟩ := h
  have hmm : m ≤ 8193 := hS.1.1
  have htm : t ≤ m := hS.2.1
  show (∀ p, prX kd (xw kd k) d t = .inl p → RNO wr (fX12_primary (RX12_variable (g + 3)) 1 w) w (PXN nd) p) ∧ (∀ e, prX kd (xw kd k) d t = .inr e → RYS kd wr m _ (fX12_primary (RX12_variable (g + 3)) 1 w) w nd d t e)
  unfold fX12_primary
  dsimp only [lt]
  rw [m_kind hS, bn2_so]
  have hS1 : 2 ≤ kd t → SM kd wr m (si w 0 7 (Int32.ofNat (t + 1))) (t + 1) d := fun hk => hS.goT (hS.lt hk)
  have hO1 : OFF (PXN nd) (si w 0 7 (Int32.ofNat (t + 1))) w := OFF.si (Or.inl ⟨rfl, by omega⟩)
  by_cases q1 : kd t = 43
  · have hX : prX kd (xw kd k) d t = (if 40 ≤ d then .inl (t + 1) else (match xw kd k (d + 1) (t + 1) with | .inl p => .inl p | .inr e => if kd e = 44 then .inr (e + 1) else .inl e)) := by
      unfold prX
      rw [if_neg (by omega), if_pos q1]
      rfl
    rw [hX, if_pos ((kq hS.k50 (x := 40) (k := 43) rfl (by omega)).mpr q1), m_taken hS hd (by omega), be_so]
    have hS1 := hS1 (by omega)
    rw [show gi (si w 0 7 (Int32.ofNat (t + 1))) 0 8 = Int32.ofNat d from hS1.2.2.2.2, ad1_iN, hS.2.2.2.1]
    have hS2 : SM kd wr m (si (si w 0 7 (Int32.ofNat (t + 1))) 0 8 (Int32.ofNat (d + 1))) (t + 1) (d + 1) := hS1.goD (by omega)
    have hO : OFF (PXN nd) (si (si w 0 7 (Int32.ofNat (t + 1))) 0 8 (Int32.ofNat (d + 1))) w := OFF.tr (OFF.si (Or.inl ⟨rfl, by omega⟩)) hO1
    by_cases q40 : 40 ≤ d
    · rw [if_pos q40]
      refine ⟨fun p hp => ?_, (fun e he => nomatch he)⟩
      injection hp with hp
      subst hp
      have h41 : d + 1 = 41 := by omega
      rw [h41] at hS2 hO ⊢
      rw [dp_whole (by omega) _ _ hS2, be_no]
      exact RNO.bad hS2 hO (fun _ _ h => h)
    · rw [if_neg q40]
      obtain ⟨g1, g2⟩ := hW (g + 3) (by omega) (by omega) _ (t + 1) nd ⟨hS2, by rw [gi_si1 (by omega), gi_si1 (by omega)]; exact hn, by omega, by rw [gi_si1 (by omega), gi_si1 (by omega)]; exact hs⟩
      rcases hx : xw kd k (d + 1) (t + 1) with p | e
      · refine ⟨fun p' hp => ?_, (fun e he => nomatch he)⟩
        injection hp with hp
        subst hp
        obtain ⟨u, u1, u2, u3⟩ := g1 p hx
        rw [u1, be_no]
        exact ⟨u, rfl, u2, u3.tr hO⟩
      · obtain ⟨n1, u1, cn, r1, r2, r3, r4, r5, r6, r7, r8, r9, r10⟩ := g2 e hx
        have hlt := xw_lt k _ _ _ hx
        have hem : e ≤ m := r2.2.1
        rw [r1, be_so, show gi u1 0 8 = Int32.ofNat (d + 1) from r2.2.2.2.2, sb1_iN (by omega) (by omega), show d + 1 - 1 = d by omega]
        have hS3 : SM kd wr m (si u1 0 8 (Int32.ofNat d)) e d := r2.goD (by omega)
        have hO3 : OFF (PXN nd) (si u1 0 8 (Int32.ofNat d)) w := OFF.tr (OFF.si (Or.inl ⟨rfl, by omega⟩)) (r10.tr hO)
        dsimp only
        by_cases q2 : kd e = 44
        · rw [if_pos q2]
          refine ⟨(fun p' h' => nomatch h'), fun e3 h' => ?_⟩
          injection h' with h'
          subst h'
          rw [m_expect hS3 hd (k := 44) (x := 41) rfl (by omega) q2, be_so]
          have hS4 : SM kd wr m (si (si u1 0 8 (Int32.ofNat d)) 0 7 (Int32.ofNat (e + 1))) (e + 1) d := hS3.goT (hS3.lt (by omega))
          have hc : gi (si (si u1 0 8 (Int32.ofNat d)) 0 7 (Int32.ofNat (e + 1))) 0 23 = Int32.ofNat (n1 + 1) := by
            rw [gi_si1 (by omega), gi_si1 (by omega)]; exact r3
          obtain ⟨u, v1, v2, v3, v4, v5, v6, v7, v8, v9, v10, v11⟩ := nd_ok (a1 := 9) (a2 := Int32.ofNat n1) (a3 := 0) (a4 := 0) (a5 := Int32.ofNat t) hS4 hc (by omega)
          rw [v1, bn2_so, if_pos (inb_iN (by omega) (by omega)), tc_iN (by omega)]
          have h45 : gi u 45 n1 = Int32.ofNat cn := by
            rw [(v11 45 n1 (by unfold PN; omega)).1, gi_si1 (by omega), gi_si1 (by omega)]; exact r7
          rw [h45, may_ok (by omega), bn2_so]
          have hagr : AGR nd n1 (si u 45 (n1 + 1) (Int32.ofNat cn)) u1 := fun k' j hk' hj hjn => by
            rw [gi_si1 (by omega), (v11 k' j (by unfold PN; omega)).1, gi_si1 (by omega), gi_si1 (by omega)]
          refine ⟨n1 + 1, _, cn, rfl, v2.si (by omega) (by omega), by rw [gi_si1 (by omega)]; exact v3, by omega, by omega, r6, gi_si0 _ _ _ _, by rw [gi_si1 (by omega)]; exact v8, ?_, ?_⟩
          · refine ⟨by omega, by rw [gi_si1 (by omega)]; exact v9, ?_, gi_si0 _ _ _ _, Or.inr (Or.inr (Or.inl ⟨by rw [gi_si1 (by omega)]; exact v4, q1, by omega, n1, e, by rw [gi_si1 (by omega)]; exact v5, by omega, (PWR.agr k _ u1 _ _ _ _ _ _ r9).2 hagr, q2, rfl⟩))⟩
            rw [gi_si1 (by omega), v10, gi_si1 (by omega), gi_si1 (by omega), (r10 0 29 (by unfold PXN; omega)).1, gi_si1 (by omega), gi_si1 (by omega)]
            exact hs
          · exact OFF.tr (OFF.si (Or.inr ⟨Or.inr rfl, by omega⟩)) (OFF.tr (v11.mono (fun _ _ hp => hp.x (by omega))) (OFF.tr (OFF.si (Or.inl ⟨rfl, by omega⟩)) hO3))
        · rw [if_neg q2]
          refine ⟨fun p' h' => ?_, (fun e1 h' => nomatch h')⟩
          injection h' with h'
          subst h'
          rw [m_expect_no hS3 (k := 44) (x := 41) rfl (by omega) (Or.inr q2) (by omega), be_no]
          exact RNO.bad hS3 hO3 (fun _ _ h => h)
  · have hc1 : ¬ (Int32.ofNat (kM (kd t)) = 40) := fun e => q1 ((kq hS.k50 (x := 40) (k := 43) rfl (by omega)).mp e)
    rw [if_neg hc1]
    by_cases q2 : kd t = 23 ∨ kd t = 24
    · rw [if_pos (q2.imp (fun q => (kq hS.k50 (x := 275) (k := 23) rfl (by omega)).mpr q) (fun q => (kq hS.k50 (x := 276) (k := 24) rfl (by omega)).mpr q)), show prX kd (xw kd k) d t = .inr (t + 1) by (unfold prX; rw [if_pos (by omega)]), m_taken hS hd (by omega), be_so, hS.2.2.2.1]
      have hS1 := hS1 (by omega)
      refine ⟨(fun p' h' => nomatch h'), fun e3 h' => ?_⟩
      injection h' with h'
      subst h'
      rw [if_pos (inb_iN (by omega) (by omega)), tc_iN (by omega), show gi (si w 0 7 (Int32.ofNat (t + 1))) 2 t = Int32.ofNat (kM (kd t)) from (hS1.1.2.2.2.2 t htm).1]
      have hP : ∀ b : Bool, (b = true ∧ kd t = 23 ∨ b = false ∧ kd t = 24) → RYS kd wr m (fun u lo n cn => PRI kd u (PWR kd u sc k) sc lo n d t (t + 1) cn) (fX12_primary_105 (RX12_variable (g + 3)) 2 b (Int32.ofNat t) (si w 0 7 (Int32.ofNat (t + 1)))) w nd d t (t + 1) := by
        intro b hb'
        unfold fX12_primary_105
        obtain ⟨u, v1, v2, v3, v4, v5, v6, v7, v8, v9, v10, v11⟩ := nd_ok (a1 := 2) (a2 := b2i b) (a3 := 0) (a4 := 0) (a5 := Int32.ofNat t) hS1 (nd := nd) (by rw [gi_si1 (by omega)]; exact hn) (by omega)
        rw [v1, bn2_so, may_ok (by omega), bn2_so]
        refine ⟨nd, _, 1, rfl, v2.si (by omega) (by omega), by rw [gi_si1 (by omega)]; exact v3, by omega, by omega, Or.inl rfl, gi_si0 _ _ _ _, by rw [gi_si1 (by omega)]; exact v8, ?_, ?_⟩
        · refine ⟨by omega, by rw [gi_si1 (by omega)]; exact v9, by rw [gi_si1 (by omega), v10, gi_si1 (by omega)]; exact hs, gi_si0 _ _ _ _, Or.inr (Or.inl ⟨by rw [gi_si1 (by omega)]; exact v4, ?_, rfl, rfl⟩)⟩
          rw [gi_si1 (by omega), v5]
          rcases hb' with ⟨rfl, h2⟩ | ⟨rfl, h2⟩
          · exact Or.inl ⟨h2, rfl⟩
          · exact Or.inr ⟨h2, rfl⟩
        · exact OFF.tr (OFF.si (Or.inr ⟨Or.inr rfl, by omega⟩)) (OFF.tr (v11.mono (fun _ _ hp => hp.x (by omega))) hO1)
      by_cases q23 : kd t = 23
      · rw [if_pos ((kq hS.k50 (x := 275) (k := 23) rfl (by omega)).mpr q23)]
        exact hP true (Or.inl ⟨rfl, q23⟩)
      · rw [if_neg (fun e => q23 ((kq hS.k50 (x := 275) (k := 23) rfl (by omega)).mp e))]
        exact hP false (Or.inr ⟨rfl, by omega⟩)
    · have hc2 : ¬ (Int32.ofNat (kM (kd t)) = 275 ∨ Int32.ofNat (kM (kd t)) = 276) := (fun e => q2 (e.imp (fun q => (kq hS.k50 (x := 275) (k := 23) rfl (by omega)).mp q) (fun q => (kq hS.k50 (x := 276) (k := 24) rfl (by omega)).mp q)))
      rw [if_neg hc2]
      by_cases q3 : kd t = 2
      · have hX : prX kd (xw kd k) d t = (if kd (t + 1) = 43 then (if 40 ≤ d then .inl (t + 2) else br_ kd (xw kd k (d + 1)) 44 (t + 2))
            else if kd (t + 1) = 45 then (if 40 ≤ d then .inl (t + 2) else br_ kd (xw kd k (d + 1)) 46 (t + 2))
            else .inr (t + 1)) := by
          unfold prX
          rw [if_neg (by omega), if_neg q1, if_pos q3]
        rw [hX, if_pos ((kq hS.k50 (x := 285) (k := 2) rfl (by omega)).mpr q3)]
        have hm := hS.lt (by omega)
        rw [hS.2.2.2.1, ad1_iN, if_pos (inb_iN (by omega) (by omega)), tc_iN (by omega), (hS.1.2.2.2.2 (t + 1) (by omega)).1]
        have hB : ∀ (c : Nat) (so : Int32) (res : Option (Option Int32 × Wd)) (cf : Nat → Nat), BRK kd wr m sc k d c so (Int32.ofNat t) (t + 2) res w nd → d + 1 ≤ 40 → (∀ l, 1 ≤ l → so = 4 ∧ kd (t + 1) = 45 ∧ c = 46 ∧ cf l = (if l = 1 then 3 else 1) ∨ so = 5 ∧ kd (t + 1) = 43 ∧ c = 44 ∧ cf l = 1) → ∀ (fin : Int32 → Wd → Option (Option Int32 × Wd)), (∀ (nn : Nat) (u : Wd) (l : Nat), nn < 24000 → l < 24000 → gi u 7 nn = so → gi u 9 nn = Int32.ofNat l → fin (Int32.ofNat nn) u = some (some (Int32.ofNat nn), si u 45 nn (Int32.ofNat (cf l)))) →
            (∀ p, br_ kd (xw kd k (d + 1)) c (t + 2) = .inl p → RNO wr (be res fin) w (PXN nd) p) ∧ ∀ e, br_ kd (xw kd k (d + 1)) c (t + 2) = .inr e → RYS kd wr m (fun u lo n cn => PRI kd u (PWR kd u sc k) sc lo n d t e cn) (be res fin) w nd d t e := by
          intro c so res cf hB hd9 hso fin hfin
          refine ⟨fun p hp => ?_, fun e he => ?_⟩
          · obtain ⟨u, u1, u2, u3⟩ := hB.1 p hp
            rw [u1, be_no]
            exact ⟨u, rfl, u2, u3⟩
          · obtain ⟨xs, u, nn, e1, v1, v2, v3, v4, v5, v6, v7, v8, v9, v10, v11, v12, v13, v14, v15, v16⟩ := hB.2 e he
            have hem : e ≤ m := v2.2.1
            have hl1 : 1 ≤ xs.length := by
              cases xs with
              | nil => exact v12.elim
              | cons x r => exact Nat.succ_le_succ (Nat.zero_le _)
            have hll : xs.length ≤ nn := by
              have : ∀ (xs : List Nat) (lo s e : Nat), rowR kd u (PWR kd u sc k) xs lo (d + 1) s e → lo ≤ nn → (∀ x ∈ xs, x < nn) → lo + xs.length ≤ nn := by
                intro xs
                induction xs with
                | nil => intro lo s e h _ _; exact h.elim
                | cons x r ih =>
                  intro lo s e h hlo hx
                  cases r with
                  | nil =>
                    obtain ⟨⟨c', h1⟩, _⟩ := h
                    have := (PWR.agr k u u _ _ _ _ _ _ h1).1
                    have := hx x List.mem_cons_self
                    show lo + 1 ≤ nn
                    omega
                  | cons y r =>
                    obtain ⟨_, _, _, _, h4, h5, h6⟩ := h
                    have := hx x List.mem_cons_self
                    have := ih _ _ _ h6 (by omega) (fun z hz => hx z (List.mem_cons_of_mem _ hz))
                    simp only [List.length_cons] at *
                    omega
              have := this xs nd _ _ v12 v4 v13
              omega
            rw [v1, be_so, hfin nn u xs.length (by omega) (by omega) v6 v8]
            have hcf : cf xs.length = 1 ∨ cf xs.length = 3 := by
              rcases hso xs.length hl1 with ⟨_, _, _, h4⟩ | ⟨_, _, _, h4⟩
              · rw [h4]; split <;> omega
              · exact Or.inl h4
            refine ⟨nn, _, cf xs.length, rfl, v2.si (by omega) (by omega), by rw [gi_si1 (by omega)]; exact v3, v4, by omega, hcf, gi_si0 _ _ _ _, by rw [gi_si1 (by omega)]; exact v9, ?_, ?_⟩
            · refine ⟨v4, by rw [gi_si1 (by omega)]; exact v10, by rw [gi_si1 (by omega)]; exact v11, gi_si0 _ _ _ _, Or.inr (Or.inr (Or.inr (Or.inr ⟨c, xs, e1, ?_, q3, by omega, by rw [gi_si1 (by omega)]; exact v7, by rw [gi_si1 (by omega)]; exact v8, ?_, v13, v14, v15⟩)))⟩
              · rw [gi_si1 (by omega), v6]
                exact hso xs.length hl1
              · exact rowR.agr (PWR.agr k) (m := nn) xs _ _ _ _ v12 v13 (fun k' j hk' _ hj => gi_si1 (by omega))
            · exact OFF.tr (OFF.si (Or.inr ⟨Or.inr rfl, by omega⟩)) v16
        by_cases q43 : kd (t + 1) = 43
        · rw [if_pos ((kq hS.k50 (x := 40) (k := 43) rfl (by omega)).mpr q43), if_pos q43]
          obtain ⟨c1, c2⟩ := m_call (rc := RX12_variable (g + 2)) hE1 hD1 hd hh q3 q43
          show (∀ p, _ → RNO wr (be (fX12_call (RX12_variable (g + 2)) w) _) w (PXN nd) p) ∧ (∀ e, _ → RYS kd wr m _ (be (fX12_call (RX12_variable (g + 2)) w) _) w nd d t e)
          by_cases q40 : 40 ≤ d
          · rw [if_pos q40]
            obtain ⟨u, u1, u2, u3⟩ := c1 (by omega)
            refine ⟨fun p hp => ?_, (fun e he => nomatch he)⟩
            injection hp with hp
            subst hp
            rw [u1, be_no]
            exact ⟨u, rfl, u2, u3⟩
          · rw [if_neg q40]
            refine hB 44 5 _ (fun _ => 1) (c2 (by omega)) (by omega) (fun l _ => Or.inr ⟨rfl, q43, rfl, rfl⟩) _ ?_
            intro nn u l hnn hl h7 h9
            rw [may_ok hnn, bn2_so]
            rfl
        · rw [if_neg (fun e => q43 ((kq hS.k50 (x := 40) (k := 43) rfl (by omega)).mp e)), if_neg q43]
          obtain ⟨c1, c2⟩ := m_variable (rc := RX12_variable (g + 2)) (rc' := RX12_variable (g + 1)) (fun _ _ => rfl) hE2 hD2 hd hh q3
          show (∀ p, _ → RNO wr (be (fX12_variable (RX12_variable (g + 2)) w) _) w (PXN nd) p) ∧ (∀ e, _ → RYS kd wr m _ (be (fX12_variable (RX12_variable (g + 2)) w) _) w nd d t e)
          by_cases q45 : kd (t + 1) = 45
          · rw [if_pos q45]
            by_cases q40 : 40 ≤ d
            · rw [if_pos q40]
              obtain ⟨u, u1, u2, u3⟩ := (c1 q45).1 (by omega)
              refine ⟨fun p hp => ?_, (fun e he => nomatch he)⟩
              injection hp with hp
              subst hp
              rw [u1, be_no]
              exact ⟨u, rfl, u2, u3⟩
            · rw [if_neg q40]
              refine hB 46 4 _ (fun l => if l = 1 then 3 else 1) ((c1 q45).2 (by omega)) (by omega) (fun l _ => Or.inl ⟨rfl, q45, rfl, rfl⟩) _ ?_
              intro nn u l hnn hl h7 h9
              rw [if_pos (inb_iN hnn (by omega)), tc_iN (by omega), h7, if_pos rfl, if_pos (inb_iN hnn (by omega)), h9]
              by_cases ql : l = 1
              · rw [if_pos (by rw [ql]; rfl), may_ok hnn, bn2_so, if_pos ql]
                rfl
              · have hql : ¬ (Int32.ofNat l = 1) := fun e => ql ((eq_iN (a := l) (b := 1) (by omega) (by omega)).mp e)
                rw [if_neg hql, may_ok hnn, bn2_so, if_neg ql]
                rfl
          · rw [if_neg q45]
            refine ⟨(fun p' h' => nomatch h'), fun e3 h' => ?_⟩
            injection h' with h'
            subst h'
            obtain ⟨u, v1, v2, v3, v4, v5, v6, v7, v8⟩ := c2 q45
            rw [v1, be_so, if_pos (inb_iN (by omega) (by omega)), tc_iN (by omega), v4, if_neg (by decide), may_ok (by omega), bn2_so]
            refine ⟨nd, _, 3, rfl, v2.si (by omega) (by omega), by rw [gi_si1 (by omega)]; exact v3, by omega, by omega, Or.inr rfl, gi_si0 _ _ _ _, by rw [gi_si1 (by omega)]; exact v5, ?_, OFF.tr (OFF.si (Or.inr ⟨Or.inr rfl, by omega⟩)) v8⟩
            exact ⟨by omega, by rw [gi_si1 (by omega)]; exact v6, by rw [gi_si1 (by omega)]; exact v7, gi_si0 _ _ _ _, Or.inr (Or.inr (Or.inr (Or.inl ⟨by rw [gi_si1 (by omega)]; exact v4, q3, q43, q45, rfl, rfl⟩)))⟩
      · have hc3 : ¬ (Int32.ofNat (kM (kd t)) = 285) := fun e => q3 ((kq hS.k50 (x := 285) (k := 2) rfl (by omega)).mp e)
        rw [if_neg hc3]
        by_cases q4 : kd t = 3
        · rw [if_pos ((kq hS.k50 (x := 286) (k := 3) rfl (by omega)).mpr q4), show prX kd (xw kd k) d t = .inr (t + 1) by (unfold prX; rw [if_pos (by omega)]), m_taken hS hd (by omega), be_so, hS.2.2.2.1]
          have hS1 := hS1 (by omega)
          refine ⟨(fun p' h' => nomatch h'), fun e3 h' => ?_⟩
          injection h' with h'
          subst h'
          obtain ⟨u, v1, v2, v3, v4, v5, v6, v7, v8, v9, v10, v11⟩ := nd_ok (a1 := 1) (a2 := 0) (a3 := 0) (a4 := 0) (a5 := Int32.ofNat t) hS1 (nd := nd) (by rw [gi_si1 (by omega)]; exact hn) (by omega)
          rw [v1, bn2_so, may_ok (by omega), bn2_so]
          refine ⟨nd, _, 1, rfl, v2.si (by omega) (by omega), by rw [gi_si1 (by omega)]; exact v3, by omega, by omega, Or.inl rfl, gi_si0 _ _ _ _, by rw [gi_si1 (by omega)]; exact v8, ?_, ?_⟩
          · exact ⟨by omega, by rw [gi_si1 (by omega)]; exact v9, by rw [gi_si1 (by omega), v10, gi_si1 (by omega)]; exact hs, gi_si0 _ _ _ _, Or.inl ⟨by rw [gi_si1 (by omega)]; exact v4, q4, rfl, rfl⟩⟩
          · exact OFF.tr (OFF.si (Or.inr ⟨Or.inr rfl, by omega⟩)) (OFF.tr (v11.mono (fun _ _ hp => hp.x (by omega))) hO1)
        · have hc4 : ¬ (Int32.ofNat (kM (kd t)) = 286) := fun e => q4 ((kq hS.k50 (x := 286) (k := 3) rfl (by omega)).mp e)
          rw [if_neg hc4, show prX kd (xw kd k) d t = .inl t by (unfold prX; rw [if_neg (by omega), if_neg q1, if_neg q3]), m_bad hS]
          refine ⟨fun p' h' => ?_, (fun e1 h' => nomatch h')⟩
          injection h' with h'
          subst h'
          exact RNO.bad hS OFF.rf (fun _ _ h => h)
end RE
