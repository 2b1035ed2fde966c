/-! BOTH SIDES MAKE DECLS' CODES, AND WHAT THEY DO: ARRAYS -/
section PA0
variable {kd wr nm TK SG : Nat → Nat} {vv : Nat → Int64} {m z : Nat} {Cf C C1 C' : Nat → Nat} {SL : Nat → List Nat} {fA fM : Wd} {NS ns SZ lev : Nat} {pn : Nat → Int32} {p sg W s e s0 d j s1 ty i0 i1 y nsc nsc1 t1 kp n e1 b lo' T Lim nx K : Nat} {st stk al xs : List Nat} {R : RTD} {rc rc0 : TX4_block} {E : SENV} {lu : Nat → Nat} {L : List (Nat × Int32)} {P : Nat → Nat → Nat → Wd → Prop} {sc : Int32} {r r' : Wd → Option (Int32 × Wd)}
/-- some TOKENS before it -/
theorem ssc_pre (hpre : ∀ w a base ob, GC2 kd wr z fA (luN nm TK SL stk) lev pn s a base ob w → ∃ w', r w = r' w' ∧ EC kd wr z fA (luN nm TK SL stk) lev pn base ob t1 a a w w' [] (fun b b' _ => b' = b) 0) (h : SSC kd wr nm TK z fA SL NS ns SZ lev pn sg kp nsc nsc1 i0 i1 t1 e stk L P T r') (hi : i0 ≤ ns) : SSC kd wr nm TK z fA SL NS ns SZ lev pn sg kp nsc nsc1 i0 i1 s e stk L P T r := by
  intro w a sz hG ha
  obtain ⟨w', p1, p2⟩ := hpre w a _ _ hG.gc
  have E1 := ESC.ec (i := i0) hG p2 hi
  obtain ⟨u, a', sz', u1, u2⟩ := h w' a sz E1.1 ha
  have := u2.2.2.2.2.1
  refine ⟨u, a', sz', by rw [p1]; exact u1, ((E1.seq u2).wk (fun b b' Z g ⟨b1, g1, g2⟩ => by rw [g1] at g2; exact g2) (by omega)).cL rfl⟩
theorem prs_fit (hk9 : ∀ i, 9000 ≤ i → kd i = 0) (hd : d ≤ 40) (hlo : lo' ≤ 24000) (he : e ≤ 9000) : ∀ (k : Nat) (xs : List Nat) (lo s : Nat), xs.length = 2 * (k + 1) → PRSX kd fA fM sc d xs lo s e lo' → ∀ v ∈ xs, v < 24000 ∧ FITX fM v (NBd d) := by
  intro k
  induction k with
  | zero =>
    intro xs lo s hx h
    match xs, h with
    | [x, y], h =>
      obtain ⟨e1, e2, c1, c2, p1, p2, p3, p4, p5, p6, p7⟩ := h
      have l1 := xw_lt _ _ _ _ (PWR_xw 41 p3.2)
      have l2 := (PWR.agr 41 fM fM _ _ _ _ _ _ p3.2).1
      intro v hv
      have hv : v = x ∨ v = y := by simpa using hv
      rcases hv with rfl | rfl
      · exact ⟨by omega, xpr_fit hk9 p1 hd (by omega) (by omega)⟩
      · exact ⟨by omega, xpr_fit hk9 p3 hd (by omega) (by omega)⟩
    | x :: y :: v :: r, h =>
      have : (x :: y :: v :: r).length = r.length + 3 := rfl
      omega
  | succ k ih =>
    intro xs lo s hx h
    match xs, h with
    | [x, y], h =>
      have : ([x, y] : List Nat).length = 2 := rfl
      omega
    | x :: y :: v :: r, h =>
      obtain ⟨e1, e2, c1, c2, p1, p2, p3, p4, p5, p6, p7⟩ := h
      have h1 : (x :: y :: v :: r).length = (v :: r).length + 2 := rfl
      have h2 := bd_lt k (v :: r) (y + 1) (e2 + 1) (by omega) p7
      have h3 := ih (v :: r) (y + 1) (e2 + 1) (by omega) p7
      have l1 := xw_lt _ _ _ _ (PWR_xw 41 p3.2)
      have l2 := (PWR.agr 41 fM fM _ _ _ _ _ _ p3.2).1
      intro q hq
      rcases List.mem_cons.mp hq with rfl | hq
      · exact ⟨by omega, xpr_fit hk9 p1 hd (by omega) (by omega)⟩
      rcases List.mem_cons.mp hq with rfl | hq
      · exact ⟨by omega, xpr_fit hk9 p3 hd (by omega) (by omega)⟩
      · exact h3 q hq
/-- codes of bounds lie behind one another -/
theorem bds_le (h : SYS E) (hk : SCE E st) (hF : bdL (vM E) (eLU E st) p K xs = []) (hO : ∀ v ∈ xs, ENX E K nx v) : (∀ a a', bdPc (vM E) (vA E) (eLU E st) p (eLV E p) K xs a a' (cA E) → a ≤ a') ∧ ∀ b b', bdP (vM E) (eLU E st) p (eLV E p) K xs b b' (dM E) → b ≤ b' := by
  have hv : ∀ v ∈ xs, FLX (vM E) (eLU E st) p K 0 v 0 = [] := fun v hv => by
    have : xs.flatMap (fun x => FLX (vM E) (eLU E st) p K 0 x 0 ++ misT (TYX (vM E) (eLU E st) K x) 1 (nd (vM E) 12 x)) = [] := hF
    exact (app_nil (List.flatMap_eq_nil_iff.mp this v hv)).1
  have hl : ∀ v ∈ xs, (∀ lev a a' g, CDC (vM E) (vA E) (eLU E st) lev K 0 v 0 a a' g → a ≤ a') ∧ ∀ lev ac b b' g, CDM (vM E) (eLU E st) lev K 0 v 0 ac b b' g → b ≤ b' := fun v hv' => WLE (cur := p) h hk K 0 v 0 (Or.inl (by omega)) (hO v hv').1 (hv v hv')
  refine ⟨fun a a' hP => ?_, fun b b' hP => ?_⟩
  · exact rwM_leq xs 0 a a' (fun x hx i b b' g => (hl x hx).1 _ _ _ _ (g (hv x hx))) (bdc_rw xs 0 a a' hP)
  · exact rwM_leq xs 0 b b' (fun x hx i b b' g => (hl x hx).2 _ _ _ _ _ (g (hv x hx))) (bdm_rw xs 0 b b' hP)
theorem jd_arr (hc : CTX kd wr m z Cf TK fA fM (luN nm TK SL st) lev p pn) (hT : TBM kd wr nm vv m Cf TK SL fA fM) (hcu : CUR fM p) (hU : UPM (Cf 2) fM st) (hl : st.length < 9000) (hR : ∀ ps : List (Nat × Nat), ps.map Prod.fst = xs → R (PARc fM fA (luN nm TK SL st) p lev FUJ (C 1) j b xs) [(n, C 1, j, b, ps)] [] (bdFc fM (luN nm TK SL st) p FUJ xs))
    (ho : kd s = 9 ∧ s1 = s + 1 ∧ ty = 1 ∨ kd s = 6 + ty ∧ 1 ≤ ty ∧ ty ≤ 2 ∧ kd (s + 1) = 9 ∧ s1 = s + 2) (hj : 1 ≤ j) (hN : NMS kd fM s1 j (C 1)) (h45 : kd (s1 + 2 * j - 1) = 45) (h8 : gi fM 8 n = Int32.ofNat (C 1)) (h9 : gi fM 9 n = Int32.ofNat (C 1 + j)) (h10 : gi fM 10 n = Int32.ofNat (xs.headD 0)) (hd : d ≤ 39) (hb : xs.length = 2 * b) (hb1 : 1 ≤ b) (hb3 : b ≤ 3) (hx : PRSX kd fA fM (hdM st) (d + 1) xs (n + 1) (s1 + 2 * j) e1 lo') (hlo : lo' ≤ 24000) (h46 : kd e1 = 46) (he : e = e1 + 1) (he9 : e1 < m) (hy : ∀ i, i < j → gi fM 19 (C 1 + i) = 2 ∧ gi fM 24 (C 1 + i) = Int32.ofNat b) (hmem : gi fM 0 10 = 0 → ∀ i, i < j → C 1 + i ∈ SL s0) (hi : C 1 + j ≤ ns) (hns : C 1 + j ≤ Cf 1) (hC1 : C' 1 = C 1 + j) (hC2 : C' 2 = C 2)
    (hr : ∀ w, rc 2 (Int32.ofNat d) 0 0 w = fX4_declaration rc0 (Int32.ofNat d) w) : JDX (fun LA PD T => SSC kd wr nm TK z fA SL NS ns SZ lev pn (sg + W) sg (C 2) (C' 2) (C 1) (C' 1) s e (s0 :: st) LA PD T (fun w => rc 2 (Int32.ofNat d) 0 0 w)) kd wr nm TK SG m SL fA fM NS ns lev R p sg W s e s0 st [n] C C' (wr e - wr s) := by
  obtain ⟨hSY, hFM, hPN, hwr, hz, hW, hz9, hk0⟩ := id hc
  have hfu := fuj
  have hk9 : ∀ i, 9000 ≤ i → kd i = 0 := fun i hi => hk0 i (by omega)
  obtain ⟨b', rfl⟩ : ∃ b', b = b' + 1 := ⟨b - 1, by omega⟩
  have hlt := bd_lt b' xs (n + 1) (s1 + 2 * j) hb hx
  have hcc := hT.2.2.2.1
  have hfit := prs_fit hk9 (show d + 1 ≤ 40 by omega) hlo (show e1 ≤ 9000 by omega) b' xs (n + 1) (s1 + 2 * j) hb hx
  obtain ⟨ps, q1, q2, q3, q4, q5⟩ := rs_arrays (lev := lev) (K := FUJ) hT hFM hcu hk9 hU hl (by omega) hlo (by omega) h8 h9 h10 hb hb3 hj (by omega) hx
  have wmo : ∀ k, s + k ≤ m → wr s + k ≤ wr (s + k) := by
    intro k
    induction k with
    | zero => exact fun _ => Nat.le_refl _
    | succ k ih =>
      intro hk
      have h1 := ih (by omega)
      have h2 := hW (s + k) (by omega)
      rw [show s + (k + 1) = s + k + 1 by omega]
      omega
  have hs1 : s + 1 ≤ s1 := by omega
  have hwe := wmo (e - s) (by omega)
  rw [show s + (e - s) = e by omega] at hwe
  have hs9 : kd (s1 - 1) = 9 := by
    rcases ho with ⟨k, e, _⟩ | ⟨_, _, _, k, e⟩
    · rw [e]; exact k
    · rw [e]; exact k
  have hb9 : NBd (d + 1) ≤ 478 := by unfold NBd; omega
  have hbd : ∀ E, EQJ E nm TK SG SL fA fM NS ns (s0 :: st) lev p sg → NFD nm TK SL fM p s0 st [(n, C 1, j, b' + 1, ps)] [] → SCE E st ∧ eLU E st = luN nm TK SL st ∧ vM E = fM ∧ vA E = fA ∧ eLV E p = lev ∧ bdL (vM E) (eLU E st) p FUJ xs = [] ∧ ∀ v ∈ xs, ENX E FUJ 478 v := fun E ⟨g1, g2, g3, g4, g5, g6, g7, ⟨g8, g9, g10, g11⟩, _⟩ hN => by
    have e3 : eLU E st = luN nm TK SL st := by
      show luN E.2.2.2.1 E.2.2.2.2 (E.2.2.1 0) st = _
      rw [g8, g9, g10]
    refine ⟨fun y hy => g5 y (List.mem_cons_of_mem _ hy), e3, g1, g2, g4, ?_, fun v hv => ?_⟩
    · have h := hN.1
      obtain ⟨h, _⟩ := app_nil (show bdL fM (luN nm TK SL st) p FUJ (ps.map Prod.fst) ++ [] = [] from h)
      rw [g1, e3, ← q1]; exact h
    · obtain ⟨f1, f2⟩ := hfit v hv
      have := f2 FUJ (by omega)
      unfold ENX
      rw [g1]
      exact ⟨this.1, by omega⟩
  rw [hC1, hC2]
  refine ⟨⟨by omega, by omega⟩, ⟨by omega, by omega, Nat.le_refl _⟩, _, [(n, C 1, j, b' + 1, ps)], [], _, ?_, ⟨rfl, fun x hx => by rw [List.mem_singleton] at hx; rw [hx]; exact q4⟩, ⟨fun y hy => absurd hy (by simp), List.Pairwise.nil, fun i _ h1 h2 h5 => ?_⟩, ?_, hR ps q1, fun E hEQ hN hS => ?_, fun E s1' Lim bk m1 m1' hEQ hm1 hN hSO hB => ?_⟩
  · have hcore : ∀ t ty' : Nat, kd t = 9 → t + 1 = s1 → SSC kd wr nm TK z fA SL NS ns SZ lev pn (sg + W) sg (C 2) (C 2) (C 1) (C 1 + j) t e (s0 :: st) (bdFc fM (luN nm TK SL st) p FUJ xs) (PARc fM fA (luN nm TK SL st) p lev FUJ (C 1) j (b' + 1) xs) (4 * (wr (e1 + 1) - wr t)) (fun w => bn (fX4_arrays (Int32.ofNat d) (if ty' = 0 then 1 else Int32.ofNat ty') w) fun w => some ((0 : Int32), w)) := fun t ty' h9' ht => by
      have h := s_arrays (n := n) (NS := NS) (SZ := SZ) (ns := ns) (sg := sg + W) (kp := sg) (nsc := C 2) (i := C 1) (s0 := s0) (ty := if ty' = 0 then 1 else Int32.ofNat ty') (K := FUJ) hc h9' (by rw [ht]; exact hN) hj (by rw [ht]; exact h45) hSY.2.2.2 hns hSY.2.2.1.1 hd hb1 hb3 hb (by rw [ht]; exact hx) hlo h46 he9 (by omega) (by omega)
      rw [he]
      exact h.wk (fun b b' Z g h => h) (Nat.le_refl _) (by omega)
    rcases ho with ⟨k, e, _⟩ | ⟨k, t1, t2, k9, e⟩
    · have h := ssc_pre (s := s) (r := fun w => rc 2 (Int32.ofNat d) 0 0 w) (fun w a base ob hw => by
        obtain ⟨w', d1, d2⟩ := dc_33 (rc := rc0) (d := d) (ty := 0) (t1 := s) hw (by omega) (Or.inl ⟨rfl, rfl, by omega, by omega⟩)
        exact ⟨w', by rw [hr, d1, dc_array (by omega) d2.1 k], d2⟩) (hcore s 0 k (by omega)) (by omega)
      rw [he]; rw [he] at h; exact h
    · have h := ssc_pre (s := s) (t1 := s + 1) (r := fun w => rc 2 (Int32.ofNat d) 0 0 w) (fun w a base ob hw => by
        obtain ⟨w', d1, d2⟩ := dc_33 (rc := rc0) (d := d) (ty := ty) (t1 := s + 1) hw (by omega) (Or.inr ⟨t1, t2, k, rfl⟩)
        exact ⟨w', by rw [hr, d1, dc_array t2 d2.1 k9], d2⟩) (hcore (s + 1) ty k9 (by omega)) (by omega)
      have hw1 := hW s (by omega)
      rw [he] at h ⊢
      exact h.wk (fun b b' Z g h => h) (by omega) (by omega)
  · have := (hy (i - C 1) (by omega)).1
    rw [show C 1 + (i - C 1) = i by omega] at this
    exact absurd (this.symm.trans h5) (by decide)
  · show 2 * j + smT ps + 1 + 0 + 0 ≤ _
    omega
  · obtain ⟨k1, k2, k3, k4, k5, k6, k7⟩ := hbd E hEQ hN
    obtain ⟨l1, l2⟩ := bds_le hS k1 k6 k7
    rw [k2, k3, k4, k5] at l1
    rw [k2, k3, k5] at l2
    refine ⟨fun a a' Z hA => ?_, fun b b1 hM => ?_⟩
    · obtain ⟨b1, hA, _, _, e⟩ := hA
      have := l1 _ _ hA
      omega
    · obtain ⟨b2, hM, _, _, e⟩ := hM
      have hM : bdP fM (luN nm TK SL st) p lev FUJ (ps.map Prod.fst) b b2 (dM E) := hM
      rw [q1] at hM
      have := l2 _ _ hM
      have e : b1 = b2 + j + 1 := e
      omega
  · obtain ⟨k1, k2, k3, k4, k5, k6, k7⟩ := hbd E hEQ hN
    have h := dcq_arr (m1 := m1) (y := C 1) (j := j) (nb := b' + 1) hSO k1 hB hm1 (xx := (n, C 1, j, b' + 1, ps)) (xs := xs) rfl rfl rfl q1 hb ⟨hb1, hb3⟩ k6 k7 (by omega) (fun q hq => by
      obtain ⟨g1, g2, g3, g4, g5, g6, g7, ⟨g8, g9, g10, g11, g12⟩, g13, g14⟩ := hEQ
      refine ⟨?_, by rw [k3]; exact (hy q hq).1, ?_, by omega⟩
      · show C 1 + q ∈ E.2.2.1 0 s0
        rw [g8]; exact hmem (by rw [← k3]; exact g14.1) q hq
      · show (gi (vM E) 24 (C 1 + q)).toNatClampNeg = _
        rw [k3, (hy q hq).2]; exact tc_iN (by omega))
    rw [k2, k3, k4, k5] at h
    rw [hC1]
    exact h
end PA0
