/-! WHAT'S TOLD OF BOTH SIDES' CODES AND FAULTS: VARIABLES, ARRAYS, switches -/
section QG6
variable {kd wr nm TK SG ph : Nat → Nat} {m : Nat} {Cf : CV} {SL : Nat → List Nat} {fA fM : Wd} {NS ns SZ : Nat} {q0 : Int32 × Int32} {lev p sg s0 s e T n j b K : Nat} {st stk xs : List Nat} {C C' : CV} {E : SENV}
theorem rxd_var (h1 : C' 1 = C 1 + j) (h3 : C' 3 = C 3) (h4 : C' 4 = C 4) (h7 : C' 7 = C 7) (h5 : 2 * (C' 5 - C 5) ≤ ph e - ph s) (h19 : ∀ i, i < j → gi fM 19 (C 1 + i) = 1) : RXD kd wr nm TK SG ph m Cf SL fA fM NS ns SZ q0 lev p sg s0 st s e C C' 0 (fun b b' _ _ => b' = b) [] [] [] := by
  refine rxd_leaf h3 h4 h7 h5 (Nat.zero_le _) FLR.rf (fun E hEQ _ _ _ a a' Z _ _ y y1 y2 => ?_)
  have h := h19 (y - C 1) (by omega)
  rw [show C 1 + (y - C 1) = y by omega, ← hEQ.1] at h
  exact ⟨fun g => by rcases g with g | g | g <;> exact absurd (h.symm.trans g) (by decide), fun g => absurd (h.symm.trans g) (by decide), fun g => absurd (h.symm.trans g) (by decide)⟩
theorem rxd_nil (hC : C' = C) (hp : ph s ≤ ph e) : RXD kd wr nm TK SG ph m Cf SL fA fM NS ns SZ q0 lev p sg s0 st s e C C' 0 (fun b b' _ _ => b' = b) [] [] [] := by
  subst hC
  exact rxd_leaf rfl rfl rfl (by omega) (Nat.zero_le _) FLR.rf (fun E hEQ _ _ _ a a' Z _ _ y y1 y2 => absurd y2 (by omega))
theorem rxd_arr {ps : List (Nat × Nat)} (hps : ps.map Prod.fst = xs) (h1 : C' 1 = C 1 + j) (h3 : C' 3 = C 3) (h4 : C' 4 = C 4) (h5 : C' 5 = C 5) (h7 : C' 7 = C 7) (h19 : ∀ i, i < j → gi fM 19 (C 1 + i) = 2) : RXD kd wr nm TK SG ph m Cf SL fA fM NS ns SZ q0 lev p sg s0 st s e C C' (wr e - wr s) (PARc fM fA (luN nm TK SL st) p lev FUJ (C 1) j b xs) [(n, C 1, j, b, ps)] [] (bdFc fM (luN nm TK SL st) p FUJ xs) := by
  refine rxd_leaf h3 h4 h7 (by omega) (Nat.le_refl _) ?_ (fun E hEQ _ _ _ a a' Z _ _ y y1 y2 => ?_)
  · refine FLR.set (fun x => ?_)
    have e1 : arL fM (luN nm TK SL st) p FUJ [(n, C 1, j, b, ps)] ++ swLL nm TK SL fM p s0 st [] = bdFc fM (luN nm TK SL st) p FUJ xs := by
      show (bdL fM (luN nm TK SL st) p FUJ (ps.map Prod.fst) ++ []) ++ [] = _
      rw [List.append_nil, List.append_nil, hps]
      rfl
    rw [e1]
  · have h := h19 (y - C 1) (by omega)
    rw [show C 1 + (y - C 1) = y by omega, ← hEQ.1] at h
    exact ⟨fun g => by rcases g with g | g | g <;> exact absurd (h.symm.trans g) (by decide), fun g => absurd (h.symm.trans g) (by decide), fun g => absurd (h.symm.trans g) (by decide)⟩
/-- entries of a switch on both sides -/
theorem swf_ok (hS : SYS E) (hk : SCE E stk) (hN : eNo E 5 0 ≤ 36872) : ∀ (xs : List Nat) (a a' e b b' : Nat), (∀ v ∈ xs, OKN (vM E) K 2 v ∧ NDX (vM E) K 2 v ≤ 502) → (xs.flatMap fun x => FLX (vM E) (eLU E stk) p K 2 x 0) = [] → swPc (vM E) (vA E) (eLU E stk) p (eLV E p) K xs a a' (cA E) → swE (vM E) (eLU E stk) p (eLV E p) K xs e b b' (dM E) → a' < eNo E 5 0 → b' < 60000 → ∀ j, j < xs.length → ∃ g c a1 b1 K nn, SWC (cA E) (eNo E 5 0) j a g ∧ gi (dM E) 58 (e + j) = Int32.ofNat c ∧ NOD E stk p K 2 nn (g + 1) a1 c b1 ∧ gl (cA E) 41 a1 = wdC 46 0 0 ∧ opW (dM E) b1 17 0 0 0 ∧ NDX (vM E) K 2 nn ≤ 502 := by
  intro xs
  induction xs with
  | nil => exact fun a a' e b b' _ _ _ _ _ _ j hj => absurd hj (by simp)
  | cons x r ih =>
    intro a a' e b b' hO hF ⟨b1, w1, hc, w2, h2⟩ ⟨o1, b2, hm, o2, h3⟩ ha hb j hj
    rw [List.flatMap_cons] at hF
    obtain ⟨f1, f2⟩ := app_nil hF
    have ox := hO x List.mem_cons_self
    have hw := WLE (cur := p) hS hk K 2 x 0 (Or.inl (by omega)) ox.1 f1
    have g1 := hw.1 _ _ _ _ (hc f1)
    have g2 := hw.2 _ _ _ _ _ (hm f1)
    have g3 := swp_le hS hk r _ _ (fun v hv => (hO v (List.mem_cons_of_mem _ hv)).1) f2 h2
    have g4 := swe_le hS hk r _ _ _ (fun v hv => (hO v (List.mem_cons_of_mem _ hv)).1) f2 h3
    cases j with
    | zero => exact ⟨a, b, b1, b2, K, x, rfl, o1, ⟨hk, hc f1, hm f1, f1, ox.1, by omega, by omega⟩, w2, o2, ox.2⟩
    | succ j =>
      obtain ⟨g, c, a1, b1', K', nn, s1, s2, s3⟩ := ih (b1 + 1) a' (e + 1) (b2 + 1) b' (fun v hv => hO v (List.mem_cons_of_mem _ hv)) f2 h2 h3 ha hb j (by rw [List.length_cons] at hj; omega)
      refine ⟨g, c, a1, b1', K', nn, ⟨by omega, b1 + 1, by omega, ?_, s1⟩, by rw [← s2, show e + 1 + j = e + (j + 1) by omega], s3⟩
      rw [w1, i64_iN (by omega)]
theorem rxd_sw {ps : List (Nat × Nat)} (hps : ps.map Prod.fst = xs) (h1 : C' 1 = C 1 + 1) (h3 : C' 3 = C 3) (h4 : C' 4 = C 4) (h5 : C' 5 = C 5) (h7 : C' 7 = C 7) (h19 : gi fM 19 (C 1) = 5) (hO : ∀ v ∈ xs, OKN fM FUJ 2 v ∧ NDX fM FUJ 2 v ≤ 502) (hlen : xs.length ≤ 24000) (hmem : gi fM 0 10 = 0 → C 1 ∈ SL s0) (hhid : C 1 ∉ SL s0 → ∀ x ∈ swFc fM (luN nm TK SL (s0 :: st)) p FUJ xs, dmP wr q0 x) (hU : UPM (Cf 2) fM (s0 :: st)) (hNS : NS = Cf 2) (h15 : gi fM 15 s0 = Int32.ofNat p) (hp : p < 1200) : RXD kd wr nm TK SG ph m Cf SL fA fM NS ns SZ q0 lev p sg s0 st s e C C' (wr e - wr s) (PSWc fM fA (luN nm TK SL (s0 :: st)) p lev FUJ (C 1) xs) [] [(C 1, ps)] (swFc fM (luN nm TK SL (s0 :: st)) p FUJ xs) := by
  refine rxd_leaf h3 h4 h7 (by omega) (Nat.le_refl _) ?_ (fun E hEQ hN hS hW a a' Z hA ha y y1 y2 => ?_)
  · by_cases c : C 1 ∈ SL s0
    · refine FLR.set (fun x => ?_)
      have e1 : arL fM (luN nm TK SL st) p FUJ [] ++ swLL nm TK SL fM p s0 st [(C 1, ps)] = swFc fM (luN nm TK SL (s0 :: st)) p FUJ xs := by
        show [] ++ ((if C 1 ∈ SL s0 then (ps.map Prod.fst).flatMap _ else []) ++ []) = _
        rw [List.append_nil, List.nil_append, if_pos c, hps]
        rfl
      rw [e1]
    · have e1 : arL fM (luN nm TK SL st) p FUJ [] ++ swLL nm TK SL fM p s0 st [(C 1, ps)] = [] := by
        show [] ++ ((if C 1 ∈ SL s0 then (ps.map Prod.fst).flatMap _ else []) ++ []) = _
        rw [List.append_nil, List.nil_append, if_neg c]
      rw [e1]
      have := (FLR.rf (wr := wr) (q0 := q0) (L := [])).hid (hhid c)
      rw [List.nil_append] at this
      exact this
  · have hy : y = C 1 := by omega
    subst hy
    obtain ⟨q1, q2, q3, q4, q5, q6, q7, ⟨q8a, q8b, q8c, q8d, q8e⟩, q9, q10, q11, q12, q13, q14⟩ := id hEQ
    have hm : C 1 ∈ SL s0 := hmem (by rw [← q1]; exact q10)
    obtain ⟨b, q, b', q', hM, hb⟩ := hW (C 1, ps) List.mem_cons_self hm
    have hF := hN.2 (C 1, ps) List.mem_cons_self
    have hF : ((ps.map Prod.fst).flatMap fun x => FLX fM (luN nm TK SL (s0 :: st)) p FUJ 2 x 0) = [] := hF
    rw [hps, ← q1, ← q3] at hF
    have hM : PSW fM (luN nm TK SL (s0 :: st)) p lev FUJ (C 1) (ps.map Prod.fst) b q b' q' (dM E) := hM
    rw [hps, ← q1, ← q3, ← q4] at hM
    rw [← q1, ← q2, ← q3, ← q4] at hA
    rw [← q1] at hO h19
    obtain ⟨w0, w1, w2, w3⟩ := hA
    obtain ⟨o0, _, ee, e1, e2, e3, e4⟩ := hM
    have g3 := swp_le hS q5 xs _ _ (fun v hv => (hO v hv).1) hF w3
    have hcell : gl (cA E) 41 (C 1 + 1) = Int64.ofNat (a + 1) := by rw [w1, i64_iN (by omega)]
    refine ⟨fun _ => ⟨a + 1, hcell, by omega⟩, fun g => absurd (h19.symm.trans g) (by decide), fun _ => ⟨s0, st, p, by rw [q8d, hNS, q1]; exact hU, by rw [← q1] at h15; exact h15, hp, by rw [← q8a] at hm; exact hm, xs.length, ee, a + 1, hcell, by omega, by rw [w2, i64_iN (by omega)], hlen, e3, e2, e1, ?_⟩⟩
    exact swf_ok hS q5 q14 xs _ _ _ _ _ hO hF w3 e4 ha hb
end QG6
