/-! PASS 2, THE REFERENCE: out of what a PROGRAM is -/
section EX
variable {kd wr nm : Nat → Nat} {vv : Nat → Int64} {m lev cur : Nat} {fA fM : Wd} {c c1 c2 c' C C' TK : Nat → Nat} {SL : Nat → List Nat} {i i0 i1 i2 i3 : Nat} {stk : List Nat}
theorem wq_cur (h : WQ fM C C') (h4 : C 4 = 1) (hc : cur < C' 4) (h12 : C' 4 ≤ 1200) : CUR fM cur := ⟨by omega, fun j j1 j2 j3 => h.2.1 j (by omega) (by omega)⟩
theorem wq_pfm (h : WQ fM C C') (h1 : C 1 = 0) (h12 : C' 4 ≤ 1200) (h50 : C' 1 ≤ 5000) : PFM fM (C' 1) := fun y hy h19 i hi => by
  obtain ⟨pn, nf, r1, r2, r3, r4, r5, r6, r7⟩ := h.2.2 y (by omega) hy h19
  have e24 : nd fM 24 y = pn := by
    unfold nd
    rw [r1, tc_iN (by omega)]
  have e31 : nd fM 31 pn = nf := by
    unfold nd
    rw [r4, tc_iN (by omega)]
  have e32 : nd fM 32 pn = y + 1 := by
    unfold nd
    rw [r5, tc_iN (by omega)]
  rw [e24, e31] at hi
  rw [e24, e32]
  exact r7 i hi
/-- an EXPR -/
theorem xpr_ok (hT : TBM kd wr nm vv m C TK SL fA fM) (hFM : PFM fM (C 1)) (hcu : CUR fM cur) (hk9 : ∀ i, 9000 ≤ i → kd i = 0) (hU : UPM (C 2) fM stk) (hl : stk.length < 9000) {K lo n d s e cn : Nat} (h : XPR kd (hdM stk) lo n d s e cn fA fM) (hn : n < 24000) (he : e ≤ m) (hK : 96100 ≤ K) :
    lo ≤ n ∧ s < e ∧ (∃ tk, gi fM 12 n = Int32.ofNat tk ∧ tk < m) ∧ (∀ N, 1676 ≤ N → VS kd wr m fM (luN nm TK SL stk) lev cur K N n (e - s)) ∧ (gi fM 7 n = 3 ∨ gi fM 7 n = 4 → ∀ N f, f ≤ 1 → 1676 ≤ N → PS kd wr m fM (luN nm TK SL stk) lev cur K N n f (e - s)) := by
  obtain ⟨g1, g2, a1, a2, a3, a4, a5, a6, a7, a8, a9, _⟩ := pwr_all (lev := lev) hT hFM hcu hk9 hU hl 41 lo n d s e cn h.2 hn he
  exact ⟨g1, g2, a3, fun N hN => a4 K N (by omega) (by omega), fun h N f hf hN => a9 h K N f hf (by omega) (by omega)⟩
/-- targets -/
theorem tgs_ok (hT : TBM kd wr nm vv m C TK SL fA fM) (hFM : PFM fM (C 1)) (hcu : CUR fM cur) (hk9 : ∀ i, 9000 ≤ i → kd i = 0) (hU : UPM (C 2) fM stk) (hl : stk.length < 9000) {K d y e : Nat} (hy : y < 24000) (he : e ≤ m) (hK : 96100 ≤ K) : ∀ (r : List Nat) (x lo s : Nat), TGS kd fA fM (hdM stk) d (x :: r) lo y s e →
    ∃ ps : List (Nat × Nat), ps.map Prod.fst = r ∧ nxC fM r (gi fM 11 x) ∧ lo ≤ y ∧ s < e ∧ (∀ p ∈ ps, TGP kd wr m fM (luN nm TK SL stk) lev cur K p) ∧ ∃ Ty ty, smT ps + Ty = e - s ∧ 1 ≤ Ty ∧ gi fM 12 y = Int32.ofNat ty ∧ ty ≤ m ∧ VS kd wr m fM (luN nm TK SL stk) lev cur K 1700 y Ty := by
  intro r
  induction r with
  | nil =>
    intro x lo s h
    obtain ⟨cn, h1, h2⟩ := h
    obtain ⟨g1, g2, ⟨tk, g3, g4⟩, g5, _⟩ := xpr_ok (lev := lev) hT hFM hcu hk9 hU hl h1 hy he hK
    exact ⟨[], rfl, h2, g1, g2, fun p hp => absurd hp (by simp), e - s, tk, by show 0 + (e - s) = e - s; omega, by omega, g3, by omega, g5 1700 (by omega)⟩
  | cons v r ih =>
    intro x lo s h
    obtain ⟨e1, cn, h1, h2, h3, h4, h5⟩ := h
    obtain ⟨ps, p1, p2, p3, p4, p5, Ty, ty, p6, p7, p8, p9, p10⟩ := ih v (v + 1) (e1 + 1) h5
    obtain ⟨g1, g2, ⟨tk, g3, g4⟩, _, g6⟩ := xpr_ok (lev := lev) hT hFM hcu hk9 hU hl h1 (by omega) (by omega) hK
    refine ⟨(v, e1 - s) :: ps, by rw [List.map_cons, p1], ⟨h4, by omega, p2⟩, by omega, by omega, fun p hp => ?_, Ty, ty, ?_, p7, p8, p9, p10⟩
    · rcases List.mem_cons.mp hp with rfl | hp
      · exact ⟨by show 1 ≤ e1 - s; omega, ⟨tk, g3, by omega⟩, g6 h2 1700 0 (by omega) (by omega)⟩
      · exact p5 p hp
    · show e1 - s + 1 + smT ps + Ty = e - s
      omega
/-- bounds -/
theorem prs_ok (hT : TBM kd wr nm vv m C TK SL fA fM) (hFM : PFM fM (C 1)) (hcu : CUR fM cur) (hk9 : ∀ i, 9000 ≤ i → kd i = 0) (hU : UPM (C 2) fM stk) (hl : stk.length < 9000) {K d e lo' : Nat} (hlo : lo' ≤ 24000) (he : e ≤ m) (hK : 96100 ≤ K) : ∀ (b : Nat) (xs : List Nat) (lo s : Nat), xs.length = 2 * b → PRSX kd fA fM (hdM stk) d xs lo s e lo' →
    ∃ ps : List (Nat × Nat), ps.map Prod.fst = xs ∧ nxC fM xs (Int32.ofNat (xs.headD 0)) ∧ lo ≤ xs.headD 0 ∧ xs.headD 0 < lo' ∧ s < e ∧ smT ps = e - s + 1 ∧ ∀ p ∈ ps, RWN kd wr m fM (luN nm TK SL stk) lev cur K 1699 p := by
  intro b
  induction b with
  | zero =>
    intro xs lo s hx h
    cases xs with
    | nil => exact h.elim
    | cons x r => rw [List.length_cons] at hx; omega
  | succ b ih =>
    intro xs lo s hx h
    match xs, hx, h with
    | [], _, h => exact h.elim
    | [_], _, h => exact h.elim
    | x :: y :: r, hx, h =>
      obtain ⟨e1, e2, q1, q2, h1, h2, h3, h4, h5⟩ := h
      match r, hx, h5 with
      | [], hx, h5 =>
        obtain ⟨h6, h7, h8⟩ := h5
        have hy : y < 24000 := by omega
        obtain ⟨y1, y2, ⟨ty, y3, y4⟩, y5, _⟩ := xpr_ok (lev := lev) hT hFM hcu hk9 hU hl h3 hy (by omega) hK
        obtain ⟨x1, x2, ⟨tx, x3, x4⟩, x5, _⟩ := xpr_ok (lev := lev) hT hFM hcu hk9 hU hl h1 (by omega) (by omega) hK
        refine ⟨[(x, e1 - s), (y, e2 - (e1 + 1))], rfl, ⟨rfl, by omega, h4, hy, h8⟩, x1, by show x < lo'; omega, by omega, ?_, fun p hp => ?_⟩
        · show e1 - s + 1 + (e2 - (e1 + 1) + 1 + 0) = e - s + 1
          omega
        · rcases List.mem_cons.mp hp with rfl | hp
          · exact ⟨x5 1699 (by omega), ⟨tx, x3, by omega⟩, by show 1 ≤ e1 - s; omega⟩
          · rcases List.mem_cons.mp hp with rfl | hp
            · exact ⟨y5 1699 (by omega), ⟨ty, y3, by omega⟩, by show 1 ≤ e2 - (e1 + 1); omega⟩
            · exact absurd hp (by simp)
      | v :: r, hx, h5 =>
        obtain ⟨h6, h7, h8⟩ := h5
        obtain ⟨ps, p1, p2, p3, p4, p5, p6, p7⟩ := ih (v :: r) (y + 1) (e2 + 1) (by rw [List.length_cons, List.length_cons, List.length_cons] at hx; rw [List.length_cons]; omega) h8
        have hv : (v :: r).headD 0 = v := rfl
        rw [hv] at p2 p3 p4
        have hy : y < 24000 := by omega
        obtain ⟨y1, y2, ⟨ty, y3, y4⟩, y5, _⟩ := xpr_ok (lev := lev) hT hFM hcu hk9 hU hl h3 hy (by omega) hK
        obtain ⟨x1, x2, ⟨tx, x3, x4⟩, x5, _⟩ := xpr_ok (lev := lev) hT hFM hcu hk9 hU hl h1 (by omega) (by omega) hK
        refine ⟨(x, e1 - s) :: (y, e2 - (e1 + 1)) :: ps, by rw [List.map_cons, List.map_cons, p1], ⟨rfl, by omega, h4, hy, ?_⟩, x1, by show x < lo'; omega, by omega, ?_, fun p hp => ?_⟩
        · rw [h7]; exact p2
        · show e1 - s + 1 + (e2 - (e1 + 1) + 1 + smT ps) = e - s + 1
          omega
        · rcases List.mem_cons.mp hp with rfl | hp
          · exact ⟨x5 1699 (by omega), ⟨tx, x3, by omega⟩, by show 1 ≤ e1 - s; omega⟩
          · rcases List.mem_cons.mp hp with rfl | hp
            · exact ⟨y5 1699 (by omega), ⟨ty, y3, by omega⟩, by show 1 ≤ e2 - (e1 + 1); omega⟩
            · exact p7 p hp
/-- AIMS of a switch -/
theorem sws_ok (hT : TBM kd wr nm vv m C TK SL fA fM) (hFM : PFM fM (C 1)) (hcu : CUR fM cur) (hk9 : ∀ i, 9000 ≤ i → kd i = 0) (hU : UPM (C 2) fM stk) (hl : stk.length < 9000) {K d e lo' : Nat} (hlo : lo' ≤ 24000) (he : e ≤ m) (hK : 96100 ≤ K) : ∀ (xs : List Nat) (lo s : Nat), CHNW kd fM 40 (fun lo x s e lo' => XAM kd (hdM stk) lo x d s e fA fM ∧ lo' = x + 1) xs lo s e lo' →
    ∃ ps : List (Nat × Nat), ps.map Prod.fst = xs ∧ nxC fM xs (Int32.ofNat (xs.headD 0)) ∧ lo ≤ xs.headD 0 ∧ xs.headD 0 < lo' ∧ s < e ∧ smT ps = e - s + 1 ∧ (∀ p ∈ ps, 1 ≤ p.2 ∧ AIS kd wr m fM (luN nm TK SL stk) lev cur K 1700 p.1 p.2) ∧ ps.length ≤ smT ps := by
  intro xs
  induction xs with
  | nil => exact fun _ _ h => h.elim
  | cons x r ih =>
    intro lo s h
    cases r with
    | nil =>
      obtain ⟨⟨h1, h2⟩, h3⟩ := h
      obtain ⟨g1, g2, g3, g4⟩ := pam_all (lev := lev) hT hFM hcu hk9 hU hl 41 lo x d s e h1.2 (by omega) he
      refine ⟨[(x, e - s)], rfl, ⟨rfl, by omega, h3⟩, g1, by show x < lo'; omega, g2, by show e - s + 1 + 0 = e - s + 1; omega, fun p hp => ?_, by show 1 ≤ e - s + 1 + 0; omega⟩
      rcases List.mem_cons.mp hp with rfl | hp
      · exact ⟨by show 1 ≤ e - s; omega, g4 K 1700 (by show 4 * x + 1 ≤ K; omega) (by omega)⟩
      · exact absurd hp (by simp)
    | cons y r =>
      obtain ⟨e1, l1, ⟨h1, h2⟩, h3, h4, h5⟩ := h
      obtain ⟨ps, p1, p2, p3, p4, p5, p6, p7, p8⟩ := ih l1 (e1 + 1) h5
      have hy : (y :: r).headD 0 = y := rfl
      rw [hy] at p2 p3 p4
      obtain ⟨g1, g2, g3, g4⟩ := pam_all (lev := lev) hT hFM hcu hk9 hU hl 41 lo x d s e1 h1.2 (by omega) (by omega)
      refine ⟨(x, e1 - s) :: ps, by rw [List.map_cons, p1], ⟨rfl, by omega, by rw [h4]; exact p2⟩, g1, by show x < lo'; omega, by omega, by show e1 - s + 1 + smT ps = e - s + 1; omega, fun p hp => ?_, by show ps.length + 1 ≤ e1 - s + 1 + smT ps; omega⟩
      rcases List.mem_cons.mp hp with rfl | hp
      · exact ⟨by show 1 ≤ e1 - s; omega, g4 K 1700 (by show 4 * x + 1 ≤ K; omega) (by omega)⟩
      · exact p7 p hp
end EX
