/-! WHAT'S TOLD OF BOTH SIDES' CODES AND FAULTS: procedures, BLOCKS -/
section QH7
variable {kd wr nm TK SG ph : Nat → Nat} {vv : Nat → Int64} {m : Nat} {Cf : CV} {SL : Nat → List Nat} {fA fM : Wd} {NS ns SZ : Nat} {q0 : Int32 × Int32} {lev p sg kp s0 s e s1 e1 sb T T' F tt n j b K nf W0 q1 nb W : Nat} {st stk xs : List Nat} {C C' Cb Cd C1 : CV} {E : SENV}
/-- into a procedure -/
theorem eqj_proc {s2 pp : Nat} (h15 : gi fM 15 s2 = Int32.ofNat pp) (h17 : gi fM 17 s2 = -1) (hs : s2 < NS) (h15' : gi fM 15 s0 ≠ Int32.ofNat pp) (h30 : gi fM 30 pp = Int32.ofNat (lev + 1)) (hl : lev ≤ 40) (hpp : pp < 1200) (hEQ : EQJ E nm TK SG SL fA fM NS ns (s0 :: st) lev p sg) : EQJ E nm TK SG SL fA fM NS ns (s2 :: s0 :: st) (lev + 1) pp 2 := by
  obtain ⟨q1, q2, q3, q4, q5, q6, q7, ⟨q8a, q8b, q8c, q8d, q8e⟩, q9, q10, q11, q12, q13⟩ := hEQ
  have ho : own E s2 pp := by rw [← q1] at h15; exact h15
  have ho' : ¬ own E s0 pp := by rw [← q1] at h15'; exact h15'
  have h17' : gi (vM E) 17 s2 = -1 := by rw [q1]; exact h17
  have hkp : kpO E pp (s2 :: s0 :: st) = 2 := by
    show (if own E s2 pp then (if gi (vM E) 17 s2 = -1 then (if own E s0 pp then (if gi (vM E) 17 s0 = -1 then kpO E pp st else eNo E 4 s0) else 2) else eNo E 4 s2) else 2) = _
    rw [if_pos ho, if_pos h17', if_neg ho']
  refine ⟨q1, q2, ?_, ?_, ?_, q12 pp hpp, hkp, ⟨q8a, q8b, q8c, q8d, q8e⟩, q9, q10, q11, q12, q13⟩
  · show luN E.2.2.2.1 E.2.2.2.2 (E.2.2.1 0) (s2 :: s0 :: st) = _
    rw [q8a, q8b, q8c]
  · show (gi (vM E) 30 pp).toNatClampNeg = _
    rw [q1, h30, tc_iN (by omega)]
  · intro y hy
    rcases List.mem_cons.mp hy with rfl | hy
    · omega
    · exact q5 y hy
/-- a procedure -/
theorem rxd_proc {i0 i1 : Nat} {PA : Nat → Nat → Nat → Wd → Prop} {PM : Nat → Nat → Nat → Nat → Wd → Prop} {LA LM : List (Nat × Int32)} (hNS : NS = Cf 2) (h53 : gi fM 0 53 = Int32.ofNat (Cf 4)) (hcf : Cf 4 ≤ 1200 ∧ Cf 1 < 5000 ∧ Cf 2 < 9000) (h42 : gi fM 0 42 = Int32.ofNat (Cf 1)) (hi1 : i1 ≤ Cf 1) (hSZ : SZ ≤ 100000)
    (h1 : 1 ≤ C 4 ∧ C 4 < Cf 4) (h29 : gi fM 29 (C 4) = Int32.ofNat (C 1)) (h19 : gi fM 19 (C 1) = 3) (h24 : gi fM 24 (C 1) = Int32.ofNat (C 4)) (h30 : gi fM 30 (C 4) = Int32.ofNat (lev + 1)) (hl : lev ≤ 40) (h30' : gi fM 30 p = Int32.ofNat lev) (h37 : gi fM 37 (C 4) = Int32.ofNat p) (hp : p < C 4) (h31 : gi fM 31 (C 4) = Int32.ofNat nf) (h32 : gi fM 32 (C 4) = Int32.ofNat (C 1 + 1)) (hnf : C 1 + 1 + nf ≤ C' 1 ∧ C' 1 ≤ Cf 1) (h35 : gi fM 35 (C 4) = Int32.ofNat q1) (hq : q1 ≤ 60000) (hq1 : q1 ≤ 1 + 8 * cntP fM (C 4) (Cf 1) + 2 * Cf 3 ∧ 1 + 2 * nf ≤ q1) (h33 : gi fM 33 (C 4) = Int32.ofNat nb)
    (hU : UPM (Cf 2) fM (C 2 :: s0 :: st)) (hlen : (s0 :: st).length < 8000) (h15 : gi fM 15 (C 2) = Int32.ofNat (C 4)) (h17 : gi fM 17 (C 2) = -1) (h15' : gi fM 15 s0 = Int32.ofNat p) (hN : NIL fM (C 1) s0) (hst : ∀ t ∈ s0 :: st, gi fM 15 t ≠ Int32.ofNat (C 4)) (hf1 : ∀ y ∈ SL (C 2), C 1 + 1 ≤ y ∧ y < C 1 + 1 + nf)
    (h18 : gi fA 18 (C 1 + 1) = Int32.ofNat W0) (hW : 6 + W0 ≤ SZ) (hff : ∃ f : Nat → Nat, f 0 = 0 ∧ f nf = W0 ∧ ∀ i, i < nf → (gi fM 19 (C 1 + 1 + i) = 6 ∧ gi fM 26 (C 1 + 1 + i) = Int32.ofNat (1 + 2 * i)) ∧ ∃ w, (w = 1 ∨ w = 2) ∧ f (i + 1) = f i + w ∧ gi fA 18 (C 1 + 1 + i + 1) = Int32.ofNat (6 + f i) ∧ (w = 1 ↔ gi fM 28 (C 1 + 1 + i) = 1 ∨ gi fM 24 (C 1 + 1 + i) = 2))
    (hCb : Cb 1 = C 1 + 1 + nf ∧ Cb 3 = C 3 ∧ Cb 4 = C 4 + 1 ∧ Cb 5 = C 5 ∧ Cb 7 = C 7) (h4 : C 4 + 1 ≤ C' 4) (hwr : wr s + 2 * nf + 2 ≤ wr sb ∧ wr sb ≤ wr e) (hph : ph s ≤ ph sb) (hi : i0 ≤ i1) (hT : tt ≤ wr e - wr sb)
    (hS : STS kd wr m fM (lev + 1) (C 4) 200 i0 i1 nb tt LM PM) (hR : RXS kd wr nm TK SG ph m Cf SL fA fM NS ns SZ q0 (lev + 1) (C 4) 2 (C 2 :: s0 :: st) sb e Cb C' tt F PA PM LA LM)
    (hmon : ∀ E : SENV, EQJ E nm TK SG SL fA fM NS ns (C 2 :: s0 :: st) (lev + 1) (C 4) 2 → LM = [] → SYS E → SPM E F PA PM) (hsim : ∀ (E : SENV) (s0' Lim : Nat), EQJ E nm TK SG SL fA fM NS ns (C 2 :: s0 :: st) (lev + 1) (C 4) 2 → q1 ≤ s0' → LM = [] → SOK E Lim → SPQ E Lim (C 2 :: s0 :: st) (C 4) (6 + W0) (1 + 2 * nf) s0' PA PM) :
    RXD kd wr nm TK SG ph m Cf SL fA fM NS ns SZ q0 lev p sg s0 st s e C C' 0 (PPRc SZ (C 1) W0 (fun b b' Z g => b ≤ b' ∧ PA b b' Z g)) [] [] LA := by
  obtain ⟨pi, r1, r2, r3, r4, r5, r6⟩ := hR
  obtain ⟨b1, b3, b4, b5, b7⟩ := hCb
  rw [b4] at r1 r2 r3 r5
  rw [b3, b5] at r5
  have hup := hU.2.1
  let x : PIF := ((tt + 2 * nf + 2, F), LM, PA, PM)
  have m1 : mgP (C 4 + 1) (fun _ => x) pi (C 4) = x := mgP_l (by omega)
  have m2 : ∀ j, C 4 + 1 ≤ j → j < C' 4 → mgP (C 4 + 1) (fun _ => x) pi j = pi j := fun j h _ => mgP_r h
  have sT : rsm (fun j => (mgP (C 4 + 1) (fun _ => x) pi j).1.1) (C 4) (C' 4) = (tt + 2 * nf + 2) + rsm (fun j => (pi j).1.1) (C 4 + 1) (C' 4) := by
    have := rsm_mgP (c := C 4 + 1) (pi1 := fun _ => x) (pi2 := pi) (fun x => x.1.1) (a := C 4) (by omega) h4
    rw [rsm_one] at this
    exact this
  have sF : rsm (fun j => (mgP (C 4 + 1) (fun _ => x) pi j).1.2) (C 4) (C' 4) = F + rsm (fun j => (pi j).1.2) (C 4 + 1) (C' 4) := by
    have := rsm_mgP (c := C 4 + 1) (pi1 := fun _ => x) (pi2 := pi) (fun x => x.1.2) (a := C 4) (by omega) h4
    rw [rsm_one] at this
    exact this
  have sL : prF (mgP (C 4 + 1) (fun _ => x) pi) (C 4) (C' 4) = LM ++ prF pi (C 4 + 1) (C' 4) := by
    rw [prF_two (b := C 4 + 1) (by omega) h4, prF_s (Nat.le_refl (C 4)), prF_z (Nat.le_refl (C 4)), List.nil_append, m1, prF_cg _ m2]
  have hPIS : PIS kd wr nm TK SG m Cf SL fA fM NS ns SZ x (fun k => if k = 0 then nf else if k = 1 then W0 else if k = 2 then q1 else if k = 4 then lev else if k = 5 then C 2 else if k = 6 then s0 else if k = 7 then p else C 1) st (C 4) := by
    refine ⟨⟨h1.1, h1.2, show C 1 < Cf 1 by omega, h29, h19, h24, h30, hl, h30', h37, hp, h31, h32, show C 1 + 1 + nf ≤ Cf 1 by omega, h35, hq⟩, hq1, ⟨hU, hlen, h15, h17, h15', hN, hst, hf1⟩, ⟨h18, hW, hSZ, hff⟩, fun c w k56 hG h35w hf => ?_, hmon, fun E Lim hEQ hL hSO => hsim E q1 Lim hEQ (Nat.le_refl _) hL hSO⟩
    refine pr_codes (i0 := i0) (i1 := i1) (Tb := tt) (nb := nb) (by omega) h30 h31 h32 (show C 1 + 1 + nf ≤ 5000 by omega) h33 hS hi hG (h35w.trans h35) (hG.2.1 0 53 (by unfold PGM PGX; omega)).1 ?_ hf (show q1 ≤ 90000 by omega) (Nat.le_refl _) ⟨Cf 1, h42, hi1, by omega⟩
    rw [h53]
    exact eq_false (nle_iN (by omega) (by omega))
  refine ⟨mgP (C 4 + 1) (fun _ => x) pi, fun j h1' h2' => ?_, by rw [sT]; omega, ?_, r4.cg b7.symm rfl (fun _ h => h), by rw [sF]; omega, fun E hEQ hNF hpp hSY hPM hSW a a' Z hA ha => ?_⟩
  · by_cases c : j = C 4
    · rw [c, m1]; exact ⟨_, st, hPIS⟩
    · rw [m2 j (by omega) h2']; exact r1 j (by omega) h2'
  · rw [sL]
    exact r3
  · have hEQ2 := eqj_proc (E := E) h15 h17 (by omega) (hst s0 List.mem_cons_self) h30 hl (by omega) hEQ
    have hLM : LM = [] := by
      have := hpp (C 4) (Nat.le_refl _) (by omega)
      rw [m1] at this
      exact this
    obtain ⟨e1, e2, _⟩ := id hEQ
    obtain ⟨w1, w2, w3, Zp, z1, z2, w4, b, ⟨g1, g2⟩, w5, w6⟩ := hA
    obtain ⟨cb, cq, cb', cq', cM, cl⟩ := hPM (C 4) (Nat.le_refl _) (by omega)
    rw [m1] at cM
    obtain ⟨f1, f2⟩ := r6 hLM E hEQ2 (fun j a b => by rw [b4] at a; rw [← m2 j a b]; exact hpp j (by omega) b) hSY (fun j a b => by rw [b4] at a; rw [← m2 j a b]; exact hPM j (by omega) b) _ _ _ _ _ _ _ g2 cM (by omega) cl
    rw [b1] at f1
    rw [b4] at f2
    have hcell : gl (cA E) 41 (C 1 + 1) = Int64.ofNat (a + 1) := by
      have : a < 36872 := by have := hEQ.2.2.2.2.2.2.2.2.2.2.2.2.2; omega
      rw [w2, i64_iN (by omega)]
    have h36 : eNo E 5 0 ≤ 36872 := hEQ.2.2.2.2.2.2.2.2.2.2.2.2.2
    refine ⟨SYF.tr (i1 := C 1 + 1 + nf) (fun y y1 y2 => ?_) f1, fun j j1 j2 => ?_⟩
    · rw [e1]
      by_cases c : y = C 1
      · subst c
        exact ⟨fun _ => ⟨a + 1, hcell, by omega⟩, fun g => absurd (h19.symm.trans g) (by decide), fun g => absurd (h19.symm.trans g) (by decide)⟩
      · obtain ⟨f, _, _, f3⟩ := hff
        have h6 := (f3 (y - (C 1 + 1)) (by omega)).1.1
        rw [show C 1 + 1 + (y - (C 1 + 1)) = y by omega] at h6
        exact ⟨fun g => by rcases g with g | g | g <;> exact absurd (h6.symm.trans g) (by decide), fun g => absurd (h6.symm.trans g) (by decide), fun g => absurd (h6.symm.trans g) (by decide)⟩
    · by_cases c : j = C 4
      · subst c
        rw [m1]
        have n29 : nd (vM E) 29 (C 4) = C 1 := by unfold nd; rw [e1, h29, tc_iN (by omega)]
        have n18 : nd (vA E) 18 (C 1 + 1) = W0 := by unfold nd; rw [e2, h18, tc_iN (by omega)]
        unfold PCF
        rw [n29, n18]
        exact ⟨a + 1, Zp, b, hcell, by rw [w3, i64_iN (by omega)], by rw [show a + 1 + 1 = a + 2 by omega, w4, i64_iN (by omega)], ⟨z1, z2⟩, by rw [show a + 1 + 2 = a + 3 by omega]; exact g2, by omega, w5, by omega⟩
      · rw [m2 j (by omega) j2]
        exact f2 j (by omega) j2
theorem swkL_mem {swl : List (Nat × List (Nat × Nat))} (h5 : ∀ y ∈ swl, gi fM 19 y.1 = 5) (hp : swl.Pairwise (fun a b => a.1 < b.1)) (ha : ∀ i ∈ SL s0, gi fM 19 i = 5 → ∃ ps, (i, ps) ∈ swl) (x : Nat × Int32) : x ∈ swkL fM (fun _ => luN nm TK SL (s0 :: st)) p FUJ (swFind swl) (SL s0) ↔ x ∈ swLL nm TK SL fM p s0 st swl := by
  have k1 : ∀ l : List Nat, x ∈ swkL fM (fun _ => luN nm TK SL (s0 :: st)) p FUJ (swFind swl) l ↔ ∃ i ∈ l, gi fM 19 i = 5 ∧ x ∈ ((swFind swl i).map Prod.fst).flatMap fun x => FLX fM (luN nm TK SL (s0 :: st)) p FUJ 2 x 0 := by
    intro l
    induction l with
    | nil => exact ⟨fun h => absurd h (by show ¬ x ∈ ([] : List (Nat × Int32)); simp), fun ⟨i, hi, _⟩ => absurd hi (by simp)⟩
    | cons i r ih =>
      show x ∈ (if gi fM 19 i = 5 then _ else []) ++ swkL fM _ p FUJ (swFind swl) r ↔ _
      rw [List.mem_append, ih]
      constructor
      · rintro (h | ⟨i', h1, h2⟩)
        · by_cases c : gi fM 19 i = 5
          · rw [if_pos c] at h
            exact ⟨i, List.mem_cons_self, c, h⟩
          · rw [if_neg c] at h
            exact absurd h (by simp)
        · exact ⟨i', List.mem_cons_of_mem _ h1, h2⟩
      · rintro ⟨i', h1, h2, h3⟩
        rcases List.mem_cons.mp h1 with rfl | h1
        · exact Or.inl (by rw [if_pos h2]; exact h3)
        · exact Or.inr ⟨i', h1, h2, h3⟩
  have k2 : ∀ l : List (Nat × List (Nat × Nat)), x ∈ swLL nm TK SL fM p s0 st l ↔ ∃ y ∈ l, y.1 ∈ SL s0 ∧ x ∈ (y.2.map Prod.fst).flatMap fun x => FLX fM (luN nm TK SL (s0 :: st)) p FUJ 2 x 0 := by
    intro l
    induction l with
    | nil => exact ⟨fun h => absurd h (by show ¬ x ∈ ([] : List (Nat × Int32)); simp), fun ⟨i, hi, _⟩ => absurd hi (by simp)⟩
    | cons y r ih =>
      show x ∈ (if y.1 ∈ SL s0 then _ else []) ++ swLL nm TK SL fM p s0 st r ↔ _
      rw [List.mem_append, ih]
      constructor
      · rintro (h | ⟨i', h1, h2⟩)
        · by_cases c : y.1 ∈ SL s0
          · rw [if_pos c] at h
            exact ⟨y, List.mem_cons_self, c, h⟩
          · rw [if_neg c] at h
            exact absurd h (by simp)
        · exact ⟨i', List.mem_cons_of_mem _ h1, h2⟩
      · rintro ⟨i', h1, h2, h3⟩
        rcases List.mem_cons.mp h1 with rfl | h1
        · exact Or.inl (by rw [if_pos h2]; exact h3)
        · exact Or.inr ⟨i', h1, h2, h3⟩
  rw [k1, k2]
  constructor
  · rintro ⟨i, h1, h2, h3⟩
    obtain ⟨ps, hps⟩ := ha i h1 h2
    rw [swFind_mem swl hp hps] at h3
    exact ⟨(i, ps), hps, h1, h3⟩
  · rintro ⟨⟨i, ps⟩, h1, h2, h3⟩
    exact ⟨i, h2, h5 _ h1, by rw [swFind_mem swl hp h1]; exact h3⟩
/-- a BLOCK -/
theorem rx_blk {PD PS PA' : Nat → Nat → Nat → Wd → Prop} {PM' : Nat → Nat → Nat → Nat → Wd → Prop} {ars : List ARE} {swl : List (Nat × List (Nat × Nat))} {sts : List STE} {LA LA' : List (Nat × Int32)} (h5 : ∀ y ∈ swl, gi fM 19 y.1 = 5) (hpw : swl.Pairwise (fun a b => a.1 < b.1)) (ha : ∀ i ∈ SL (C 2), gi fM 19 i = 5 → ∃ ps, (i, ps) ∈ swl)
    (hE : ∀ E, EQJ E nm TK SG SL fA fM NS ns stk lev p kp → arL fM (luN nm TK SL stk) p FUJ ars ++ swkL fM (fun _ => luN nm TK SL (C 2 :: stk)) p FUJ (swFind swl) (SL (C 2)) ++ rwL sts = [] → SYS E → (EQJ E nm TK SG SL fA fM NS ns (C 2 :: stk) lev p sg ∧ NFD nm TK SL fM p (C 2) stk ars swl ∧ rwL sts = []) ∧ (∀ a a' Z, PA' a a' Z (cA E) → sg + W ≤ Z ∧ ∃ x x' y y', a ≤ x ∧ x ≤ x' ∧ x' ≤ y ∧ y ≤ y' ∧ y' ≤ a' ∧ PD x x' Z (cA E) ∧ PS y y' Z (cA E)) ∧ ∀ b q b' q', PM' b q b' q' (dM E) → q ≤ q' ∧ ∃ v0 v1 v2 v3, b ≤ v0 ∧ v0 ≤ v1 ∧ v1 ≤ v2 ∧ v2 ≤ v3 ∧ v3 ≤ b' ∧ arP fM (luN nm TK SL stk) p lev FUJ ars v0 v1 (dM E) ∧ (∀ i ∈ SL (C 2), gi fM 19 i = 5 → ∃ b1 q1 b2 q2, PSW fM (luN nm TK SL (C 2 :: stk)) p lev FUJ i ((swFind swl i).map Prod.fst) b1 q1 b2 q2 (dM E) ∧ b2 ≤ b') ∧ rwP sts v2 q v3 q' (dM E))
    (hCd : Cd 1 = C 1 ∧ Cd 3 = C 3 + 1 ∧ Cd 4 = C 4 ∧ Cd 5 = C 5 ∧ Cd 7 = C 7) (l3 : Cd 3 ≤ C1 3 ∧ C1 3 ≤ C' 3) (l4 : Cd 4 ≤ C1 4 ∧ C1 4 ≤ C' 4) (l5 : Cd 5 ≤ C1 5 ∧ C1 5 ≤ C' 5) (l7 : C1 7 ≠ 0 → C' 7 = C1 7) (hw : wr s ≤ wr (s + 1) ∧ wr (s + 1) ≤ wr s1 ∧ wr s1 ≤ wr e1 ∧ wr e1 ≤ wr e) (hph : ph s + 6 ≤ ph (s + 1) ∧ ph (s + 1) ≤ ph s1 ∧ ph s1 ≤ ph e1 ∧ ph e1 + 4 ≤ ph e)
    (hD : RXD kd wr nm TK SG ph m Cf SL fA fM NS ns SZ q0 lev p sg (C 2) stk (s + 1) s1 Cd C1 T PD ars swl LA) (hS : RXS kd wr nm TK SG ph m Cf SL fA fM NS ns SZ q0 lev p sg (C 2 :: stk) s1 e1 C1 C' T' F PS (rwP sts) LA' (rwL sts)) :
    RXS kd wr nm TK SG ph m Cf SL fA fM NS ns SZ q0 lev p kp stk s e C C' (T + T' + (wr (s + 1) - wr s) + (wr e - wr e1)) F PA' PM' (LA ++ LA') (arL fM (luN nm TK SL stk) p FUJ ars ++ swkL fM (fun _ => luN nm TK SL (C 2 :: stk)) p FUJ (swFind swl) (SL (C 2)) ++ rwL sts) := by
  obtain ⟨pi1, r1, r2, r3, r4, r5, r6⟩ := hD
  obtain ⟨pi2, t1, t2, t3, t4, t5, t6⟩ := hS
  obtain ⟨d1, d3, d4, d5, d7⟩ := hCd
  rw [d4] at r1 r2 r3 r5 l4
  rw [d3, d5] at r5
  rw [d3] at l3
  rw [d5] at l5
  have m1 : ∀ j, C 4 ≤ j → j < C1 4 → mgP (C1 4) pi1 pi2 j = pi1 j := fun j _ h => mgP_l h
  have m2 : ∀ j, C1 4 ≤ j → j < C' 4 → mgP (C1 4) pi1 pi2 j = pi2 j := fun j h _ => mgP_r h
  have sT : rsm (fun j => (mgP (C1 4) pi1 pi2 j).1.1) (C 4) (C' 4) = rsm (fun j => (pi1 j).1.1) (C 4) (C1 4) + rsm (fun j => (pi2 j).1.1) (C1 4) (C' 4) := rsm_mgP (fun x => x.1.1) l4.1 l4.2
  have sF : rsm (fun j => (mgP (C1 4) pi1 pi2 j).1.2) (C 4) (C' 4) = rsm (fun j => (pi1 j).1.2) (C 4) (C1 4) + rsm (fun j => (pi2 j).1.2) (C1 4) (C' 4) := rsm_mgP (fun x => x.1.2) l4.1 l4.2
  have sL : prF (mgP (C1 4) pi1 pi2) (C 4) (C' 4) = prF pi1 (C 4) (C1 4) ++ prF pi2 (C1 4) (C' 4) := prF_mgP l4.1 l4.2
  refine ⟨mgP (C1 4) pi1 pi2, r1.mg t1, by rw [sT]; omega, ?_, (r4.app t4 l7).cg d7.symm rfl (fun _ h => h), by rw [sF]; omega, fun hL E hEQ hpp hSY hPM a a' Z b q b' q' hA hM hab hbb => ?_⟩
  · rw [sL]
    refine (r3.app t3).cgR (fun x => ?_)
    have hk := swkL_mem (p := p) (nm := nm) (TK := TK) (st := stk) h5 hpw ha x
    simp only [List.mem_append, hk]
    constructor
    · rintro (((h | h) | h) | (h | h)) <;> simp [h]
    · rintro (((h | h) | h) | (h | h)) <;> simp [h]
  · obtain ⟨⟨f1, f2, f3⟩, f4, f5⟩ := hE E hEQ hL hSY
    obtain ⟨gZ, x, x', y, y', x1, x2, x3, x4, x5, x6, x7⟩ := f4 _ _ _ hA
    obtain ⟨gq, v0, v1, v2, v3, y1, y2, y3, y4, y5, y6, y7, y8⟩ := f5 _ _ _ _ hM
    obtain ⟨a1, a2⟩ := r6 E f1 f2 (fun j a b => by rw [d4] at a; rw [← m1 j a b]; exact hpp j a (by omega)) hSY (fun j a b => by rw [d4] at a; rw [← m1 j a b]; exact hPM j a (by omega)) (fun z hz hz2 => by
      obtain ⟨b1, q1, b2, q2, g1, g2⟩ := y7 z.1 hz2 (h5 z hz)
      rw [swFind_mem swl hpw (show (z.1, z.2) ∈ swl from hz)] at g1
      exact ⟨b1, q1, b2, q2, g1, by omega⟩) x x' Z x6 (by omega)
    obtain ⟨b1, b2⟩ := t6 f3 E f1 (fun j a b => by rw [← m2 j a b]; exact hpp j (by omega) b) hSY (fun j a b => by rw [← m2 j a b]; exact hPM j (by omega) b) y y' Z v2 q v3 q' x7 y8 (by omega) (by omega)
    rw [d1] at a1
    rw [d4] at a2
    refine ⟨a1.tr b1, fun j h1 h2 => ?_⟩
    by_cases q : j < C1 4
    · rw [m1 j h1 q]; exact a2 j h1 q
    · rw [m2 j (by omega) h2]; exact b2 j (by omega) h2
end QH7
