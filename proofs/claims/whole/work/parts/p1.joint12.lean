/-! BOTH SIDES MAKE DECLS' CODES, AND WHAT THEY DO: switches -/
section PB1
variable {kd wr nm TK SG : Nat → Nat} {vv : Nat → Int64} {m z : Nat} {Cf C C1 C' : Nat → Nat} {SL : Nat → List Nat} {fA fM : Wd} {NS ns SZ lev : Nat} {pn : Nat → Int32} {p sg W s e s0 d i0 i1 y nsc nsc1 kp n lo' T Lim nx K : Nat} {st stk al xs : List Nat} {R : RTD} {rc rc0 : TX4_block} {E : SENV} {lu : Nat → Nat}
theorem swx_ok (hT : TBM kd wr nm vv m Cf TK SL fA fM) (hFM : PFM fM (Cf 1)) (hcu : CUR fM p) (hk9 : ∀ i, 9000 ≤ i → kd i = 0) (hU : UPM (Cf 2) fM stk) (hl : stk.length < 9000) (hlo : lo' ≤ 24000) (he : e ≤ m) (he9 : e ≤ 9000) (hd : d ≤ 40) : ∀ (xs : List Nat) (lo s : Nat), CHNW kd fM 40 (fun lo x s e lo' => XAM kd (hdM stk) lo x d s e fA fM ∧ lo' = x + 1) xs lo s e lo' → ∃ ps : List (Nat × Nat), ps.map Prod.fst = xs ∧ nxC fM xs (Int32.ofNat (xs.headD 0)) ∧ (∀ q ∈ ps, 1 ≤ q.2 ∧ AIS kd wr m fM (luN nm TK SL stk) lev p FUJ 1700 q.1 q.2) ∧ smT ps = e - s + 1 ∧ s < e ∧ ps.length ≤ smT ps ∧ ∀ v ∈ xs, OKN fM FUJ 2 v ∧ NDX fM FUJ 2 v ≤ NBd d := by
  have hfu := fuj
  intro xs
  induction xs with
  | nil => exact fun _ _ h => h.elim
  | cons x r ih =>
    intro lo s h
    cases r with
    | nil =>
      obtain ⟨⟨h1, h1'⟩, h11⟩ := h
      obtain ⟨g1, g2, g3, g4⟩ := pam_all (lev := lev) (cur := p) hT hFM hcu hk9 hU hl 41 _ _ _ _ _ h1.2 (by omega) he
      refine ⟨[(x, e - s)], rfl, ⟨rfl, by omega, h11⟩, fun q hq => ?_, ?_, g2, ?_, fun v hv => ?_⟩
      · rw [List.mem_singleton] at hq
        subst hq
        exact ⟨by show 1 ≤ e - s; omega, g4 FUJ 1700 (by omega) (by omega)⟩
      · show e - s + 1 + 0 = _
        omega
      · show 1 ≤ e - s + 1 + 0
        omega
      · rw [List.mem_singleton] at hv
        subst hv
        exact xam_fit hk9 h1 hd he9 (by omega) FUJ (by omega)
    | cons y r' =>
      obtain ⟨e1, l1, ⟨h1, h1'⟩, h2, h11, h3⟩ := h
      have a2 := aims_lt _ _ _ h3
      have a3 := kd_lt hk9 h2 (by decide)
      obtain ⟨g1, g2, g3, g4⟩ := pam_all (lev := lev) (cur := p) hT hFM hcu hk9 hU hl 41 _ _ _ _ _ h1.2 (by omega) (by omega)
      obtain ⟨ps, q1, q2, q3, q4, q5, q6, q7⟩ := ih _ _ h3
      refine ⟨(x, e1 - s) :: ps, by rw [List.map_cons, q1], ⟨rfl, by omega, by rw [h11]; exact q2⟩, fun q hq => ?_, ?_, by omega, ?_, fun v hv => ?_⟩
      · rcases List.mem_cons.mp hq with rfl | hq
        · exact ⟨by show 1 ≤ e1 - s; omega, g4 FUJ 1700 (by omega) (by omega)⟩
        · exact q3 q hq
      · show e1 - s + 1 + smT ps = _
        omega
      · show ps.length + 1 ≤ e1 - s + 1 + smT ps
        omega
      · rcases List.mem_cons.mp hv with rfl | hv
        · exact xam_fit hk9 h1 hd (by omega) (by omega) FUJ (by omega)
        · exact q7 v hv
theorem swp_le (h : SYS E) (hk : SCE E stk) : ∀ (xs : List Nat) (a a' : Nat), (∀ v ∈ xs, OKN (vM E) K 2 v) → (xs.flatMap fun x => FLX (vM E) (eLU E stk) p K 2 x 0) = [] → swPc (vM E) (vA E) (eLU E stk) p (eLV E p) K xs a a' (cA E) → a ≤ a' := by
  intro xs
  induction xs with
  | nil =>
    intro a a' _ _ hP
    have hP : a' = a := hP
    omega
  | cons x r ih =>
    intro a a' hO hF ⟨b1, _, hc, _, h2⟩
    rw [List.flatMap_cons] at hF
    obtain ⟨f1, f2⟩ := app_nil hF
    have := (WLE (cur := p) h hk K 2 x 0 (Or.inl (by omega)) (hO x List.mem_cons_self) f1).1 _ _ _ _ (hc f1)
    have := ih _ _ (fun v hv => hO v (List.mem_cons_of_mem _ hv)) f2 h2
    omega
theorem jd_sw (hc : CTJ kd wr nm TK vv m z Cf SL fA fM (s0 :: st) lev p pn) (hR : ∀ ps : List (Nat × Nat), ps.map Prod.fst = xs → R (PSWc fM fA (luN nm TK SL (s0 :: st)) p lev FUJ (C 1) xs) [] [(C 1, ps)] (swFc fM (luN nm TK SL (s0 :: st)) p FUJ xs))
    (h13 : kd s = 13) (hN : NMS kd fM (s + 1) 1 (C 1)) (h50 : kd (s + 2) = 50) (h19 : gi fM 19 (C 1) = 5) (h23 : gi fM 23 (C 1) = Int32.ofNat p) (h25 : gi fM 25 (C 1) = Int32.ofNat (xs.headD 0)) (hx : CHNW kd fM 40 (fun lo x s e lo' => XAM kd (hdM (s0 :: st)) lo x d s e fA fM ∧ lo' = x + 1) xs n (s + 3) e lo') (hlo : lo' ≤ 24000) (h40 : kd e ≠ 40) (he : e ≤ m) (hd : d ≤ 40) (hmem : gi fM 0 10 = 0 → C 1 ∈ SL s0) (hi : C 1 + 1 ≤ ns) (hns : C 1 + 1 ≤ Cf 1) (hC1 : C' 1 = C 1 + 1) (hC2 : C' 2 = C 2)
    (hr : ∀ w, rc 2 (Int32.ofNat d) 0 0 w = fX4_declaration rc0 (Int32.ofNat d) w) : JDX (fun LA PD T => SSC kd wr nm TK z fA SL NS ns SZ lev pn (sg + W) sg (C 2) (C' 2) (C 1) (C' 1) s e (s0 :: st) LA PD T (fun w => rc 2 (Int32.ofNat d) 0 0 w)) kd wr nm TK SG m SL fA fM NS ns lev R p sg W s e s0 st [] C C' (wr e - wr s) := by
  have hk9 := hc.k9
  have hm9 := hc.m9
  obtain ⟨hT, hB, hcu, hU, hl, hCX⟩ := hc
  obtain ⟨hSY, hFM, hPN, hwr, hz, hW, hz9, hk0⟩ := id hCX
  have hfu := fuj
  obtain ⟨ps, q1, q2, q3, q4, q5, q6, q7⟩ := swx_ok (lev := lev) hT hFM hcu hk9 hU hl hlo he (by omega) hd xs n (s + 3) hx
  have wmo : ∀ k, s + k ≤ m → wr s + k ≤ wr (s + k) := by
    intro k
    induction k with
    | zero => exact fun _ => Nat.le_refl _
    | succ k ih =>
      intro hk
      have h1 := ih (by omega)
      have h2 := hW (s + k) (by omega)
      rw [show s + (k + 1) = s + k + 1 by omega]
      omega
  have hwe := wmo (e - s) (by omega)
  rw [show s + (e - s) = e by omega] at hwe
  have hP : ∀ E, EQJ E nm TK SG SL fA fM NS ns (s0 :: st) lev p sg → NFD nm TK SL fM p s0 st [] [(C 1, ps)] → SYS E → ∀ a a' Z, PSWc fM fA (luN nm TK SL (s0 :: st)) p lev FUJ (C 1) xs a a' Z (cA E) → gl (cA E) 41 a = jwC 33 a' ∧ a < a' := fun E ⟨g1, g2, g3, g4, g5, g6⟩ hN hS a a' Z hA => by
    obtain ⟨w1, _, _, w2⟩ := hA
    have hF := hN.2 (C 1, ps) List.mem_cons_self
    have hF : ((ps.map Prod.fst).flatMap fun x => FLX fM (luN nm TK SL (s0 :: st)) p FUJ 2 x 0) = [] := hF
    rw [q1, ← g1, ← g3] at hF
    rw [← g1, ← g2, ← g3, ← g4] at w2
    have := swp_le hS g5 xs _ _ (fun v hv => by rw [g1]; exact (q7 v hv).1) hF w2
    exact ⟨w1, by omega⟩
  rw [hC1, hC2]
  refine ⟨⟨by omega, by omega⟩, ⟨by omega, by omega, Nat.le_refl _⟩, _, [], [(C 1, ps)], _, ?_, ⟨rfl, fun x hx => absurd hx (by simp)⟩, ⟨fun y hy => ?_, List.pairwise_singleton _ _, fun i _ h1 h2 h5 => ⟨ps, by rw [show i = C 1 by omega]; exact List.mem_cons_self⟩⟩, ?_, hR ps q1, fun E hEQ hN hS => ⟨fun a a' Z hA => by have := (hP E hEQ hN hS a a' Z hA).2; omega, fun b b' hM => by have hM : b' = b := hM; omega⟩, fun E s1' Lim bk m1 m1' hEQ hm1 hN hSO hB => ?_⟩
  · have h := ssc_pre (s := s) (r := fun w => rc 2 (Int32.ofNat d) 0 0 w) (fun w a base ob hw => by
      obtain ⟨w', d1, d2⟩ := dc_33 (rc := rc0) (d := d) (ty := 0) (t1 := s) hw (by omega) (Or.inl ⟨rfl, rfl, by omega, by omega⟩)
      exact ⟨w', by rw [hr, d1, dc_switch d2.1 h13], d2⟩) (s_switch (K := FUJ) (NS := NS) (SZ := SZ) (ns := ns) (sg := sg + W) (kp := sg) (nsc := C 2) hCX h13 (hN 0 (by omega)).1 h50 (hSY.2.2.2 (C 1) (by omega)) (by have := (hN 0 (by omega)).2.2; exact this) (by omega) hx he hlo h40 hd (by omega)) (by omega)
    exact h
  · rw [List.mem_singleton] at hy
    subst hy
    refine ⟨Nat.le_refl _, by show C 1 < _; omega, h19, ⟨h23, ?_, q3, q6⟩, hmem, fun v hv => by
      have hv : v ∈ ps.map Prod.fst := hv
      rw [q1] at hv
      have := q7 v hv
      have hb : NBd d ≤ 502 := by unfold NBd; omega
      exact ⟨this.1, by omega⟩⟩
    show nxC fM (ps.map Prod.fst) (gi fM 25 (C 1))
    rw [q1, h25]
    exact q2
  · show 0 + (smT ps + 1 + 0) ≤ _
    omega
  · rw [hC1]
    have g1 : vM E = fM := hEQ.1
    refine dcq_jmp hSO.1 (by omega) (fun y _ h2 hy => ?_) ?_ (hP E hEQ hN hSO.2.1)
    · rw [g1, show y = C 1 by omega, h19] at h2
      exact absurd h2 (by decide)
    · show swN E s0 (C 1) (C 1) + (if C 1 ≤ C 1 ∧ gi (vM E) 19 (C 1) = 5 ∧ C 1 ∈ eSL E s0 then 1 else 0) ≤ 1
      rw [swN_z (Nat.le_refl _)]
      split <;> omega
end PB1
