/-! BOTH SIDES MAKE A BLOCK's CODES, without a STATEMENT's beginning: the PROGRAM's -/
section SF0
variable {kd wr nm TK SG : Nat → Nat} {vv : Nat → Int64} {m z : Nat} {Cf C Cd C1 C' : Nat → Nat} {SL : Nat → List Nat} {fA fM : Wd} {NS ns SZ lev : Nat} {pn : Nat → Int32} {p sg W kp s s1 e e1 d n q q1 q' jd N K T T' F : Nat} {stk al xs : List Nat} {R RS : RTY} {RD : RTD} {rc rcB rcD : TX4_block} {E : SENV}
/-- both sides of a BLOCK itself -/
def JBK (kd wr nm TK SG : Nat → Nat) (m z : Nat) (SL : Nat → List Nat) (fA fM : Wd) (NS ns SZ lev : Nat) (pn : Nat → Int32) (R : RTY) (p sg kp N s e bk : Nat) (stk : List Nat) (q q' : Nat) (C C' : CV) (T F : Nat) (hA : Wd → Option (Int32 × Wd)) : Prop :=
  (q ≤ q' ∧ T ≤ wr e - wr s) ∧ ∃ (PA : Nat → Nat → Nat → Wd → Prop) (PM : Nat → Nat → Nat → Nat → Wd → Prop) (LA LM : List (Nat × Int32)), SSC kd wr nm TK z fA SL NS ns SZ lev pn sg kp (C 2) (C' 2) (C 1) (C' 1) s e stk LA PA (4 * (wr e - wr s) - 20) hA ∧ (∀ c w, GST kd wr m fM lev p c w → FITS c (T - 1) → ∃ u c', RX12_row N 3 (Int32.ofNat bk) 0 0 w = some (0, u) ∧ EST kd wr m fM lev p (C 1) (C' 1) c c' w u LM PM (4 * (T - 2) + 3) ((T - 2) / 2) ((T - 2) / 2) ((T - 2) / 2) (T - 2) (T - 2)) ∧ R PA PM LA LM ∧ (∀ E : SENV, EQJ E nm TK SG SL fA fM NS ns stk lev p kp → LM = [] → SYS E → SPM E F PA PM) ∧ ∀ (E : SENV) (s0 Lim : Nat), EQJ E nm TK SG SL fA fM NS ns stk lev p kp → q' ≤ s0 → LM = [] → SOK E Lim → SPQ E Lim stk p sg q s0 PA PM
theorem jp_blk0 (hc : CTJ kd wr nm TK vv m z Cf SL fA fM stk lev p pn)
    (hR : ∀ PD ars swl LA PS sts LA', (∀ y ∈ swl, gi fM 19 y.1 = 5) → swl.Pairwise (fun a b => a.1 < b.1) → (∀ i ∈ SL (C 2), gi fM 19 i = 5 → ∃ ps, (i, ps) ∈ swl) → (∀ E, EQJ E nm TK SG SL fA fM NS ns stk lev p kp → arL fM (luN nm TK SL stk) p FUJ ars ++ swkL fM (fun _ => luN nm TK SL (C 2 :: stk)) p FUJ (swFind swl) (SL (C 2)) ++ rwL sts = [] → SYS E → (EQJ E nm TK SG SL fA fM NS ns (C 2 :: stk) lev p sg ∧ NFD nm TK SL fM p (C 2) stk ars swl ∧ rwL sts = []) ∧ (∀ a a' Z, PBLc sg kp W PD PS a a' Z (cA E) → sg + W ≤ Z ∧ ∃ x x' y y', a ≤ x ∧ x ≤ x' ∧ x' ≤ y ∧ y ≤ y' ∧ y' ≤ a' ∧ PD x x' Z (cA E) ∧ PS y y' Z (cA E)) ∧ ∀ b q b' q', PBL fM (luN nm TK SL stk) (fun _ => luN nm TK SL (C 2 :: stk)) p lev FUJ (C 3) ars (SL (C 2)) (swFind swl) sts b q b' q' (dM E) → q ≤ q' ∧ ∃ v0 v1 v2 v3, b ≤ v0 ∧ v0 ≤ v1 ∧ v1 ≤ v2 ∧ v2 ≤ v3 ∧ v3 ≤ b' ∧ arP fM (luN nm TK SL stk) p lev FUJ ars v0 v1 (dM E) ∧ (∀ i ∈ SL (C 2), gi fM 19 i = 5 → ∃ b1 q1 b2 q2, PSW fM (luN nm TK SL (C 2 :: stk)) p lev FUJ i ((swFind swl i).map Prod.fst) b1 q1 b2 q2 (dM E) ∧ b2 ≤ b') ∧ rwP sts v2 q v3 q' (dM E)) → RD PD ars swl LA → RS PS (rwP sts) LA' (rwL sts) → R (fun b b' Z g => PBLc sg kp W PD PS b b' Z g) (fun b q b' q' g => PBL fM (luN nm TK SL stk) (fun _ => luN nm TK SL (C 2 :: stk)) p lev FUJ (C 3) ars (SL (C 2)) (swFind swl) sts b q b' q' g) (LA ++ LA') (arL fM (luN nm TK SL stk) p FUJ ars ++ swkL fM (fun _ => luN nm TK SL (C 2 :: stk)) p FUJ (swFind swl) (SL (C 2)) ++ rwL sts))
    (h4 : kd s = 4) (hdd : d < 40 ∨ d = 40 ∧ kd (s + 1) = 5) (h7 : gi fM 7 n = 27) (h8 : gi fM 8 n = Int32.ofNat (C 3)) (hn : n < 24000) (hbk : C 3 < 9000) (h40 : nxC fM al (gi fM 40 (C 3))) (h39 : nxC fM xs (gi fM 39 (C 3))) (h42 : gi fM 42 (C 3) = Int32.ofNat (C 2)) (h17 : gi fM 17 (C 2) = Int32.ofNat (C 3)) (h15 : gi fM 15 (C 2) = Int32.ofNat p) (h14 : gi fM 14 (C 2) = hdM stk) (h33 : gi fA 33 (C 2 + 1) = Int32.ofNat W) (hW1 : 1 ≤ W) (hSZ : sg + W ≤ SZ) (hNS : C 2 < NS) (hNS' : NS = Cf 2) (hns : ns ≤ 4100)
    (hlen : (C 2 :: stk).length < 9000) (hnin : C 2 ∉ stk) (hSD : (SL (C 2)).Pairwise (fun a b => b < a)) (hsc : ∀ i ∈ SL (C 2), (gi fM 19 i = 5 ∨ gi fM 19 i = 2 → C 1 ≤ i ∧ i < C1 1) ∧ (gi fM 19 i = 4 → C1 1 ≤ i ∧ i < C' 1)) (hjd : jd ≤ 9000) (hxs : xs.length ≤ 9000)
    (hE4 : ∀ E : SENV, EQJ E nm TK SG SL fA fM NS ns stk lev p kp → eNo E 4 (C 2) = sg) (hBLS : ∀ (E : SENV) (Lim : Nat), EQJ E nm TK SG SL fA fM NS ns stk lev p kp → SOK E Lim → sg + W ≤ eNo E 1 p → q1 ≤ eNo E 3 p → BLS E (C 2) p (C 3) sg W q q1) (hqq : q ≤ q1)
    (hCd : Cd 1 = C 1 ∧ Cd 2 = C 2 + 1) (h5 : kd e1 = 5) (he : e = e1 + 1) (hem : e ≤ m) (hs9 : s + 1 ≤ e1)
    (hD : JDX (fun LA PD T => DLC kd wr nm TK z fA SL NS ns SZ lev pn rcD (d + 1) jd (sg + W) sg (Cd 2) (C1 2) (Cd 1) (C1 1) (s + 1) s1 (C 2 :: stk) LA PD T) kd wr nm TK SG m SL fA fM NS ns lev RD p sg W (s + 1) s1 (C 2) stk al Cd C1 T)
    (hS : JRW kd wr nm TK SG m z SL fA fM NS ns SZ lev pn RS p (sg + W) sg N (d + 1) rcB xs s1 e1 (C 2 :: stk) q1 q' C1 C' T' F)
    (hr1 : ∀ w, rcB 1 (Int32.ofNat (d + 1)) 0 0 w = fX4_declarations rcD (Int32.ofNat (d + 1)) w) : JBK kd wr nm TK SG m z SL fA fM NS ns SZ lev pn R p sg kp (N + 2) s e (C 3) stk q q' C C' (T + T' + (wr (s + 1) - wr s) + (wr e - wr e1)) F (fX4_block rcB (Int32.ofNat d)) := by
  have hk9 := hc.k9
  have hm9 := hc.m9
  obtain ⟨hT, hB, hcu, hU, hl, hCX⟩ := hc
  obtain ⟨hSY, hFM, hPN, hwr, hz, hW, hz9, hk0⟩ := id hCX
  obtain ⟨c1, c2, PD, ars, swl, LA, hD1, ⟨a1, a2⟩, ⟨w1, w2, w3⟩, hDT, hRD, hDm, hDs⟩ := hD
  obtain ⟨hq, hCC, hse, hwe, PS, sts, LA', hS1, ⟨r1, r2, r3⟩, hRS, hSm, hSs⟩ := hS
  obtain ⟨d1, d2⟩ := hCd
  rw [d1] at c1 w1 w3 hD1 hDs
  rw [d2] at hD1
  have hRSC := hT.1
  have hSL := hT.2.2.2.2.1 (C 2) (by omega)
  have hcc := hT.2.2.2.1
  have b1 := hB s (by omega)
  have b2 := hB e1 (by omega)
  rw [h4, show wlN 4 = 5 from rfl] at b1
  rw [h5, show wlN 5 = 1 from rfl, ← he] at b2
  -- the class
  obtain ⟨fo, hfo⟩ := FU_ge (k := jd + 1) (by omega)
  have hDc : SSC kd wr nm TK z fA SL NS ns SZ lev pn (sg + W) sg (C 2 + 1) (C1 2) (C 1) (C1 1) (s + 1) s1 (C 2 :: stk) LA PD (4 * (wr s1 - wr (s + 1))) (fun w => rcB 1 (Int32.ofNat (d + 1)) 0 0 w) := fun w a sz hG ha => by
    obtain ⟨u, a', sz', u1, u2⟩ := hD1 (fo + jd) 0 (by omega) (by omega) w a sz hG ha
    refine ⟨u, a', sz', ?_, u2⟩
    show rcB 1 (Int32.ofNat (d + 1)) 0 0 w = _
    rw [hr1]
    show oX4_declarations_2 rcD FU _ 0 w = _
    rw [hfo, ← Nat.add_assoc]
    exact u1
  have hA := (s_block (kp := kp) h4 hdd hNS h33 hW1 hSZ (show C 1 ≤ ns by omega) (show xs.length - 1 ≤ 9000 by omega) hDc hS1 h5)
  rw [← he] at hA
  -- the reference
  have hTs : swkT fM (swFind swl) (SL (C 2)) ≤ swT swl := by
    refine Nat.le_trans (swkT_le w2 (SL (C 2)) 5000 hSD (fun i hi => by have := hSL.2 i hi; omega) (fun i hi h5 => ?_)) (swU_T swl)
    have := (hsc i hi).1 (Or.inl h5)
    exact w3 i hi this.1 this.2 h5
  have hTot : arT ars + swkT fM (swFind swl) (SL (C 2)) + rwT sts + 2 ≤ T + T' + (wr (s + 1) - wr s) + (wr e - wr e1) := by omega
  have hT9 : T + T' + (wr (s + 1) - wr s) + (wr e - wr e1) ≤ wr e - wr s := by omega
  have hM : ∀ c w, GST kd wr m fM lev p c w → FITS c (T + T' + (wr (s + 1) - wr s) + (wr e - wr e1) - 1) → ∃ u c', RX12_row (N + 2) 3 (Int32.ofNat (C 3)) 0 0 w = some (0, u) ∧ EST kd wr m fM lev p (C 1) (C' 1) c c' w u (arL fM (luN nm TK SL stk) p FUJ ars ++ swkL fM (fun _ => luN nm TK SL (C 2 :: stk)) p FUJ (swFind swl) (SL (C 2)) ++ rwL sts) (fun b q b' q' g => PBL fM (luN nm TK SL stk) (fun _ => luN nm TK SL (C 2 :: stk)) p lev FUJ (C 3) ars (SL (C 2)) (swFind swl) sts b q b' q' g) (4 * (T + T' + (wr (s + 1) - wr s) + (wr e - wr e1) - 2) + 3) ((T + T' + (wr (s + 1) - wr s) + (wr e - wr e1) - 2) / 2) ((T + T' + (wr (s + 1) - wr s) + (wr e - wr e1) - 2) / 2) ((T + T' + (wr (s + 1) - wr s) + (wr e - wr e1) - 2) / 2) (T + T' + (wr (s + 1) - wr s) + (wr e - wr e1) - 2) (T + T' + (wr (s + 1) - wr s) + (wr e - wr e1) - 2) := fun c w hG hf => by
    unfold FITS at hf
    have l1 := arT_len ars
    have l3 := rwT_len sts
    obtain ⟨u, c', u1, u2⟩ := blk_codes (N := N) (K := FUJ) (blk := C 3) (lo := C 1) (mid := C1 1) (hi := C' 1) (s := C 2) (slu := fun _ => luN nm TK SL (C 2 :: stk)) (sps := swFind swl) (lu := luN nm TK SL stk) (ars := ars) (l := SL (C 2)) (sts := sts) hbk (by rw [a1]; exact h40) a2 h42 (by omega) (hRSC.2.2.2.1 (C 2) (by omega)) (fun i hi => ⟨by have := hSL.2 i hi; omega, fun h5 => by
      have hh := (hsc i hi).1 (Or.inl h5)
      obtain ⟨ps, hp⟩ := w3 i hi hh.1 hh.2 h5
      have := (w1 _ hp).2.2.2.1
      unfold swS at this ⊢
      rw [swFind_mem swl w2 hp]
      exact this⟩) (swD_of (lo := C 1) (hi := C1 1) (by omega) (by omega) hSD (fun i hi h5 => (hsc i hi).1 (Or.inl h5))) (by rw [r1]; exact h39) r2 c1.1 hG (by unfold FITS; omega) (by omega) (by omega) (by omega)
    exact ⟨u, c', u1, u2.wk (fun _ _ _ _ _ g => g) (by omega)⟩
  have hgo : ∀ E, EQJ E nm TK SG SL fA fM NS ns stk lev p kp → EQJ E nm TK SG SL fA fM NS ns (C 2 :: stk) lev p sg := fun E hEQ => by
    obtain ⟨q1, q2, q3, q4, q5, q6, q7, ⟨q8a, q8b, q8c, q8d, q8e⟩, q9, q10⟩ := id hEQ
    have ho : own E (C 2) p := by rw [← q1] at h15; exact h15
    refine ⟨q1, q2, ?_, q4, ?_, q6, ?_, ⟨q8a, q8b, q8c, q8d, q8e⟩, q9, q10⟩
    · show luN E.2.2.2.1 E.2.2.2.2 (E.2.2.1 0) (C 2 :: stk) = _
      rw [q8a, q8b, q8c]
    · intro y hy
      rcases List.mem_cons.mp hy with rfl | hy
      · omega
      · exact q5 y hy
    · show (if own E (C 2) p then (if gi (vM E) 17 (C 2) = -1 then kpO E p stk else eNo E 4 (C 2)) else 2) = _
      rw [if_pos ho, if_neg (fun e => by
        rw [q1, h17] at e
        have h2 : (0 : Int32) ≤ Int32.ofNat (C 3) := zl_iN (by omega)
        rw [e] at h2
        exact absurd h2 (by decide)), hE4 E hEQ]
  have hnf : ∀ E, EQJ E nm TK SG SL fA fM NS ns stk lev p kp → arL fM (luN nm TK SL stk) p FUJ ars ++ swkL fM (fun _ => luN nm TK SL (C 2 :: stk)) p FUJ (swFind swl) (SL (C 2)) ++ rwL sts = [] → NFD nm TK SL fM p (C 2) stk ars swl ∧ rwL sts = [] := fun E hEQ hL => by
    obtain ⟨l12, l3⟩ := app_nil hL
    obtain ⟨l1, l2⟩ := app_nil l12
    refine ⟨⟨l1, fun y hy => ?_⟩, l3⟩
    obtain ⟨y1, y2, y3, _, y5, _⟩ := w1 y hy
    have h10 : gi fM 0 10 = 0 := by
      obtain ⟨q1, _, _, _, _, _, _, _, _, q10⟩ := hEQ
      rw [← q1]; exact q10.1
    have := swkL_no _ l2 y.1 (y5 h10) y3
    rw [swFind_mem swl w2 (show (y.1, y.2) ∈ swl from hy)] at this
    exact this
  have hsw : ∀ E, EQJ E nm TK SG SL fA fM NS ns stk lev p kp → NFD nm TK SL fM p (C 2) stk ars swl → SYS E → ∀ i ∈ SL (C 2), gi fM 19 i = 5 → ∀ b q b' q', PSW fM (luN nm TK SL (C 2 :: stk)) p lev FUJ i ((swFind swl i).map Prod.fst) b q b' q' (dM E) → b < b' := fun E hEQ hN hS i hi h5 b q b' q' hP => by
    obtain ⟨g1, g2, g3, g4, g5, g6⟩ := hgo E hEQ
    have hh := (hsc i hi).1 (Or.inl h5)
    obtain ⟨ps, hp⟩ := w3 i hi hh.1 hh.2 h5
    obtain ⟨_, _, _, _, _, y6⟩ := w1 _ hp
    rw [swFind_mem swl w2 hp] at hP
    obtain ⟨_, _, x, _, _, _, hP⟩ := hP
    have hF := hN.2 _ hp
    have hF : ((ps.map Prod.fst).flatMap fun x => FLX fM (luN nm TK SL (C 2 :: stk)) p FUJ 2 x 0) = [] := hF
    rw [← g1, ← g3] at hF
    rw [← g1, ← g3, ← g4] at hP
    have := swe_le hS g5 _ _ _ _ (fun v hv => by rw [g1]; exact (y6 v hv).1) hF hP
    omega
  have hcon : ∀ E, EQJ E nm TK SG SL fA fM NS ns stk lev p kp → arL fM (luN nm TK SL stk) p FUJ ars ++ swkL fM (fun _ => luN nm TK SL (C 2 :: stk)) p FUJ (swFind swl) (SL (C 2)) ++ rwL sts = [] → SYS E → (EQJ E nm TK SG SL fA fM NS ns (C 2 :: stk) lev p sg ∧ NFD nm TK SL fM p (C 2) stk ars swl ∧ rwL sts = []) ∧ (∀ a a' Z, PBLc sg kp W PD PS a a' Z (cA E) → sg + W ≤ Z ∧ ∃ x x' y y', a ≤ x ∧ x ≤ x' ∧ x' ≤ y ∧ y ≤ y' ∧ y' ≤ a' ∧ PD x x' Z (cA E) ∧ PS y y' Z (cA E)) ∧ ∀ b q b' q', PBL fM (luN nm TK SL stk) (fun _ => luN nm TK SL (C 2 :: stk)) p lev FUJ (C 3) ars (SL (C 2)) (swFind swl) sts b q b' q' (dM E) → q ≤ q' ∧ ∃ v0 v1 v2 v3, b ≤ v0 ∧ v0 ≤ v1 ∧ v1 ≤ v2 ∧ v2 ≤ v3 ∧ v3 ≤ b' ∧ arP fM (luN nm TK SL stk) p lev FUJ ars v0 v1 (dM E) ∧ (∀ i ∈ SL (C 2), gi fM 19 i = 5 → ∃ b1 q1 b2 q2, PSW fM (luN nm TK SL (C 2 :: stk)) p lev FUJ i ((swFind swl i).map Prod.fst) b1 q1 b2 q2 (dM E) ∧ b2 ≤ b') ∧ rwP sts v2 q v3 q' (dM E) := fun E hEQ hL hS => by
    obtain ⟨n1, n2⟩ := hnf E hEQ hL
    obtain ⟨x1, x2⟩ := hDm E (hgo E hEQ) n1 hS
    obtain ⟨x3, x4⟩ := hSm E (hgo E hEQ) n2 hS
    refine ⟨⟨hgo E hEQ, n1, n2⟩, fun a a' Z ⟨hZ, v0, v1, v2, hw, hP, _, hP2, _, e9⟩ => ?_, fun b qq b' q2' ⟨_, v1, v2, v3, hP, _, ⟨q9, hP2, hP3⟩, _, e9⟩ => ?_⟩
    · have := x1 _ _ _ hP; have := x3 _ _ _ hP2
      exact ⟨hZ, _, _, _, _, by omega, by omega, by omega, by omega, by omega, hP, hP2⟩
    · have g1 : vM E = fM := hEQ.1
      have g4 : eLV E p = lev := hEQ.2.2.2.1
      have := x2 _ _ hP
      have hP2' := hP2
      rw [← g1, ← g4] at hP2'
      obtain ⟨y1, y2⟩ := sw_le _ _ _ _ _ hP2' (fun i hi h5 b q b' q' hPP => hsw E hEQ n1 hS i hi (by rw [← g1]; exact h5) b q b' q' (by rw [← g1, ← g4]; exact hPP))
      have := x4 _ _ _ _ hP3
      have hmem := (sw_mem _ _ _ _ _ hP2 (fun i hi h5 b q b' q' hPP => hsw E hEQ n1 hS i hi h5 b q b' q' hPP)).2
      rw [y2] at hP3
      exact ⟨by omega, _, _, _, _, by omega, by omega, by omega, by omega, by omega, hP, fun i hi h5 => by
        obtain ⟨b1, q1, b2, q2, z1, z2⟩ := hmem i hi h5
        exact ⟨b1, q1, b2, q2, z1, by omega⟩, hP3⟩
  refine ⟨⟨by omega, hT9⟩, _, _, _, _, hA.wk (fun b b' Z g h => h) (by omega) (by omega), hM, hR PD ars swl LA PS sts LA' (fun y hy => (w1 y hy).2.2.1) w2 (fun i hi h5 => by
    have hh := (hsc i hi).1 (Or.inl h5)
    exact w3 i hi hh.1 hh.2 h5) hcon hRD hRS, fun E hEQ hL hS => ?_, fun E s0 Lim hEQ hs0 hL hSO a a' Z b qq b' q2' hAA hMM hZ hq' ha hb h0 => ?_⟩
  · obtain ⟨⟨_, _, n2⟩, k1, k2⟩ := hcon E hEQ hL hS
    have m4 := (hSm E (hgo E hEQ) n2 hS).2
    exact ⟨fun a a' Z hP => by obtain ⟨_, x, x', y, y', f1, f2, f3, f4, f5, _⟩ := k1 a a' Z hP; omega, fun b q b' q' hP => by obtain ⟨fq, v0, v1, v2, v3, f1, f2, f3, f4, f5, _, _, f6⟩ := k2 b q b' q' hP; have := m4 _ _ _ _ f6; omega⟩
  · obtain ⟨n1, n2⟩ := hnf E hEQ hL
    have hEQ2 := hgo E hEQ
    obtain ⟨g1, g2, g3, g4, g5, g6, g7, ⟨g8a, g8b, g8c, g8d, g8e⟩, g9, g10⟩ := id hEQ
    have gs : eSL E (C 2) = SL (C 2) := by rw [← g8a]
    have hZ9 : sg + W ≤ eNo E 1 p := Nat.le_trans hAA.1 hZ
    have hMo : qq ≤ q2' := by
      obtain ⟨_, v1, v2, v3, hP, _, ⟨q9, hP2, hP3⟩, _, e9⟩ := hMM
      rw [← g1, ← g4] at hP2
      obtain ⟨y1, y2⟩ := sw_le _ _ _ _ _ hP2 (fun i hi h5 b q b' q' hPP => hsw E hEQ n1 hSO.2.1 i hi (by rw [← g1]; exact h5) b q b' q' (by rw [← g1, ← g4]; exact hPP))
      have := (hSm E hEQ2 n2 hSO.2.1).2 _ _ _ _ hP3
      omega
    have hBL := hBLS E Lim hEQ hSO hZ9 (by omega)
    have hd := hDs E s0 Lim (C 3) q q1 hEQ2 (by omega) n1 hSO hBL
    rw [← g1, ← g3, ← g4] at hd hMM
    have hu : UPM (eNo E 5 6) (vM E) (C 2 :: stk) := by
      refine ⟨by rw [g1]; exact h14, by omega, ?_⟩
      rw [g8d, hNS', g1]
      exact hU
    have hb := sp_blk (a := a) (b := b) (K := FUJ) (q := qq) hSO g9 hBL (by omega) hu hlen hnin (fun y hy h2 => by
      rw [gs] at hy
      rw [g1] at h2
      exact (hsc y hy).1 (Or.inr h2)) hd (fun L hLL => (hSs E s0 L hEQ2 hs0 n2 (hSO.le hLL)).1) (fun a a' Z b q b' q' hA hM hZ hq ha hb h0 l hl1 hl4 => by
      have hl1' := hl1
      rw [gs] at hl1'
      have hr := (hsc l hl1').2 (by rw [← g1]; exact hl4)
      exact (hSs E s0 Lim hEQ2 hs0 n2 hSO).2 a a' Z b q b' q' hA hM hZ hq ha hb h0 l hl1 hr.1 hr.2 hl4) (by rw [g1]; exact swD_of (lo := C 1) (hi := C1 1) (by omega) (by omega) hSD (fun i hi h5 => (hsc i hi).1 (Or.inl h5))) (fun i hi => by rw [gs]; exact hi) (fun i hi h5 b q b' q' hP => hsw E hEQ n1 hSO.2.1 i hi (by rw [← g1]; exact h5) b q b' q' (by rw [← g1, ← g4]; exact hP)) (by rw [g7]; exact hAA) hMM hZ hq' ha hb h0
    exact hb
end SF0
