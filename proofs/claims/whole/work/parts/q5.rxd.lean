/-! WHAT'S TOLD OF BOTH SIDES' CODES AND FAULTS: LABELS; R of DECLS -/
section QF5
section RL
variable {kd wr nm TK SG ph : Nat → Nat} {m : Nat} {Cf : CV} {SL : Nat → List Nat} {fA fM : Wd} {NS ns SZ : Nat} {q0 : Int32 × Int32} {lev p kp s e s1 e1 s2 e2 T F T1 F1 T2 F2 n j : Nat} {stk : List Nat} {C C' C1 D D' : CV}
/-- LABELS before it -/
theorem rx_lab {PA : Nat → Nat → Nat → Wd → Prop} {PM : Nat → Nat → Nat → Nat → Wd → Prop} {LA LM : List (Nat × Int32)} (hLB : LBS kd fM n s j (C 1)) (hmon : ∀ E : SENV, EQJ E nm TK SG SL fA fM NS ns stk lev p kp → LM = [] → SYS E → SPM E F PA PM) (hw : wr s ≤ wr (s + 2 * j)) (hp : ph s ≤ ph (s + 2 * j)) (h : RXS kd wr nm TK SG ph m Cf SL fA fM NS ns SZ q0 lev p kp stk (s + 2 * j) e (upD C 1 j) C' T F PA PM LA LM) : RXS kd wr nm TK SG ph m Cf SL fA fM NS ns SZ q0 lev p kp stk s e C C' T F (PLB kp (C 1) j PA) (fun b q b' q' g => (∀ x, x < j → gi g 55 (C 1 + x) = Int32.ofNat b) ∧ PM b q b' q' g) LA LM := by
  obtain ⟨pi, r1, r2, r3, r4, r5, r6⟩ := h
  have u1 : upD C 1 j 1 = C 1 + j := upD_s
  have u3 : upD C 1 j 3 = C 3 := upD_n (by decide)
  have u4 : upD C 1 j 4 = C 4 := upD_n (by decide)
  have u5 : upD C 1 j 5 = C 5 := upD_n (by decide)
  have u7 : upD C 1 j 7 = C 7 := upD_n (by decide)
  rw [u4] at r1 r2 r3 r5
  rw [u3, u5] at r5
  refine ⟨pi, r1, by omega, r3, r4.cg u7.symm rfl (fun _ h => h), by omega, fun hL E hEQ hpp hS hPM a a' Z b q b' q' hA hM ha hb => ?_⟩
  obtain ⟨hA1, hA2⟩ := hA
  obtain ⟨hM1, hM2⟩ := hM
  obtain ⟨m1, m2⟩ := hmon E hEQ hL hS
  have n1 := m1 _ _ _ hA2
  have n2 := m2 _ _ _ _ hM2
  have q1 := hEQ.1
  have h36 : eNo E 5 0 ≤ 36872 := hEQ.2.2.2.2.2.2.2.2.2.2.2.2.2
  obtain ⟨g1, g2⟩ := r6 hL E hEQ (by rw [u4]; exact hpp) hS (by rw [u4]; exact hPM) _ _ _ _ _ _ _ hA2 hM2 ha hb
  rw [u1] at g1
  rw [u4] at g2
  refine ⟨SYF.tr (i1 := C 1 + j) (fun y y1 y2 => ?_) g1, g2⟩
  obtain ⟨i, rfl⟩ : ∃ i, y = C 1 + i := ⟨y - C 1, by omega⟩
  have h19 : gi (vM E) 19 (C 1 + i) = 4 := by rw [q1]; exact (hLB.2 i (by omega)).2.2.2.1
  refine ⟨fun _ => ⟨a + i, ?_, by omega⟩, fun _ => ⟨b, hM1 i (by omega), by omega⟩, fun e => absurd (h19.symm.trans e) (by decide)⟩
  rw [(hA1 i (by omega)).1, i64_iN (by omega)]
end RL
section RD
variable (kd wr nm TK SG ph : Nat → Nat) (m : Nat) (Cf : CV) (SL : Nat → List Nat) (fA fM : Wd) (NS ns SZ : Nat) (q0 : Int32 × Int32)
/-- switches' faults, of those that are in the SCOPE's list -/
def swLL (p s0 : Nat) (st : List Nat) : List (Nat × List (Nat × Nat)) → List (Nat × Int32)
  | [] => []
  | y :: r => (if y.1 ∈ SL s0 then (y.2.map Prod.fst).flatMap fun x => FLX fM (luN nm TK SL (s0 :: st)) p FUJ 2 x 0 else []) ++ swLL p s0 st r
/-- the reference's codes of switches are there -/
def SWH (E : SENV) (lev p s0 : Nat) (st : List Nat) (swl : List (Nat × List (Nat × Nat))) : Prop := ∀ y ∈ swl, y.1 ∈ SL s0 → ∃ b q b' q', PSW fM (luN nm TK SL (s0 :: st)) p lev FUJ y.1 (y.2.map Prod.fst) b q b' q' (dM E) ∧ b' < 60000
/-- R of DECLS -/
def RXD (lev p sg s0 : Nat) (st : List Nat) (s e : Nat) (C C' : CV) (T : Nat) : RTD := fun PD ars swl LA => ∃ pi : Nat → PIF, PIR kd wr nm TK SG m Cf SL fA fM NS ns SZ pi (C 4) (C' 4) ∧ T + rsm (fun j => (pi j).1.1) (C 4) (C' 4) ≤ wr e - wr s ∧ FLR wr q0 LA (arL fM (luN nm TK SL st) p FUJ ars ++ swLL nm TK SL fM p s0 st swl ++ prF pi (C 4) (C' 4)) ∧ F7X C C' LA ∧ 10 * (C' 3 - C 3) + 9 * rsm (fun j => (pi j).1.2) (C 4) (C' 4) + 2 * (C' 5 - C 5) ≤ ph e - ph s ∧
  ∀ E : SENV, EQJ E nm TK SG SL fA fM NS ns (s0 :: st) lev p sg → NFD nm TK SL fM p s0 st ars swl → (∀ j, C 4 ≤ j → j < C' 4 → (pi j).2.1 = []) → SYS E → PMH E pi (C 4) (C' 4) → SWH nm TK SL fM E lev p s0 st swl → ∀ a a' Z, PD a a' Z (cA E) → a' < eNo E 5 0 → SYF E (C 1) (C' 1) ∧ ∀ j, C 4 ≤ j → j < C' 4 → PCF E SZ (pi j) j
end RD
section RE
variable {kd wr nm TK SG ph : Nat → Nat} {m : Nat} {Cf : CV} {SL : Nat → List Nat} {fA fM : Wd} {NS ns SZ : Nat} {q0 : Int32 × Int32} {lev p sg s0 s e s1 e1 s2 e2 T T1 T2 n j : Nat} {st : List Nat} {C C' C1 D D' : CV}
theorem swLL_app : ∀ (l l' : List (Nat × List (Nat × Nat))), swLL nm TK SL fM p s0 st (l ++ l') = swLL nm TK SL fM p s0 st l ++ swLL nm TK SL fM p s0 st l' := by
  intro l
  induction l with
  | nil => exact fun _ => rfl
  | cons y r ih =>
    intro l'
    show (if y.1 ∈ SL s0 then _ else []) ++ swLL nm TK SL fM p s0 st (r ++ l') = _
    rw [ih]
    exact (List.append_assoc _ _ _).symm
/-- no symbols that count, no procedures -/
theorem rxd_leaf {PD : Nat → Nat → Nat → Wd → Prop} {ars : List ARE} {swl : List (Nat × List (Nat × Nat))} {LA : List (Nat × Int32)} (h3 : C' 3 = C 3) (h4 : C' 4 = C 4) (h7 : C' 7 = C 7) (h5 : 2 * (C' 5 - C 5) ≤ ph e - ph s) (hT : T ≤ wr e - wr s) (hL : FLR wr q0 LA (arL fM (luN nm TK SL st) p FUJ ars ++ swLL nm TK SL fM p s0 st swl)) (hE : ∀ E : SENV, EQJ E nm TK SG SL fA fM NS ns (s0 :: st) lev p sg → NFD nm TK SL fM p s0 st ars swl → SYS E → SWH nm TK SL fM E lev p s0 st swl → ∀ a a' Z, PD a a' Z (cA E) → a' < eNo E 5 0 → SYF E (C 1) (C' 1)) : RXD kd wr nm TK SG ph m Cf SL fA fM NS ns SZ q0 lev p sg s0 st s e C C' T PD ars swl LA := by
  refine ⟨fun _ => ((0, 0), [], fun _ _ _ _ => True, fun _ _ _ _ _ => True), fun j a b => absurd b (by omega), ?_, ?_, F7X.rf h7, ?_, fun E hEQ hN _ hS _ hW a a' Z hA ha => ⟨hE E hEQ hN hS hW a a' Z hA ha, fun j a b => absurd b (by omega)⟩⟩
  · rw [rsm_z (by omega)]; omega
  · rw [prF_z (by omega), List.append_nil]; exact hL
  · rw [rsm_z (by omega)]; omega
/-- DECLS in a row -/
theorem rxd_cons {PD PD2 : Nat → Nat → Nat → Wd → Prop} {ars ars2 : List ARE} {swl swl2 : List (Nat × List (Nat × Nat))} {LA LA2 : List (Nat × Int32)} (hs : s2 = e1 + 1) (hw : wr s ≤ wr e1 ∧ wr e1 ≤ wr s2 ∧ wr s2 ≤ wr e) (hp : ph s ≤ ph e1 ∧ ph e1 ≤ ph s2 ∧ ph s2 ≤ ph e) (l3 : C 3 ≤ C1 3 ∧ C1 3 ≤ C' 3) (l4 : C 4 ≤ C1 4 ∧ C1 4 ≤ C' 4) (l5 : C 5 ≤ C1 5 ∧ C1 5 ≤ C' 5) (l7 : C1 7 ≠ 0 → C' 7 = C1 7)
    (hcon : ∀ E : SENV, EQJ E nm TK SG SL fA fM NS ns (s0 :: st) lev p sg → NFD nm TK SL fM p s0 st (ars ++ ars2) (swl ++ swl2) → SYS E → COD E (PSQ PD PD2) PD (ars ++ ars2) ars nm TK SL fM p lev st ∧ COD E (PSQ PD PD2) PD2 (ars ++ ars2) ars2 nm TK SL fM p lev st)
    (h : RXD kd wr nm TK SG ph m Cf SL fA fM NS ns SZ q0 lev p sg s0 st s e1 C C1 T1 PD ars swl LA) (g : RXD kd wr nm TK SG ph m Cf SL fA fM NS ns SZ q0 lev p sg s0 st s2 e C1 C' T2 PD2 ars2 swl2 LA2) : RXD kd wr nm TK SG ph m Cf SL fA fM NS ns SZ q0 lev p sg s0 st s e C C' (T1 + T2) (PSQ PD PD2) (ars ++ ars2) (swl ++ swl2) (LA ++ LA2) := by
  obtain ⟨pi1, r1, r2, r3, r4, r5, r6⟩ := h
  obtain ⟨pi2, t1, t2, t3, t4, t5, t6⟩ := g
  have m1 : ∀ j, C 4 ≤ j → j < C1 4 → mgP (C1 4) pi1 pi2 j = pi1 j := fun j _ h => mgP_l h
  have m2 : ∀ j, C1 4 ≤ j → j < C' 4 → mgP (C1 4) pi1 pi2 j = pi2 j := fun j h _ => mgP_r h
  have sT : rsm (fun j => (mgP (C1 4) pi1 pi2 j).1.1) (C 4) (C' 4) = rsm (fun j => (pi1 j).1.1) (C 4) (C1 4) + rsm (fun j => (pi2 j).1.1) (C1 4) (C' 4) := rsm_mgP (fun x => x.1.1) l4.1 l4.2
  have sF : rsm (fun j => (mgP (C1 4) pi1 pi2 j).1.2) (C 4) (C' 4) = rsm (fun j => (pi1 j).1.2) (C 4) (C1 4) + rsm (fun j => (pi2 j).1.2) (C1 4) (C' 4) := rsm_mgP (fun x => x.1.2) l4.1 l4.2
  have sL : prF (mgP (C1 4) pi1 pi2) (C 4) (C' 4) = prF pi1 (C 4) (C1 4) ++ prF pi2 (C1 4) (C' 4) := prF_mgP l4.1 l4.2
  refine ⟨mgP (C1 4) pi1 pi2, r1.mg t1, by rw [sT]; omega, ?_, r4.app t4 l7, by rw [sF]; omega, fun E hEQ hN hpp hS hPM hW a a' Z hA ha => ?_⟩
  · rw [sL, arL_app, swLL_app]
    refine (r3.app t3).cgR (fun x => ?_)
    simp only [List.mem_append]
    constructor
    · rintro (((h | h) | h) | ((h | h) | h)) <;> simp [h]
    · rintro (((h | h) | (h | h)) | (h | h)) <;> simp [h]
  · obtain ⟨n1, n2⟩ := hN.app
    obtain ⟨⟨g1, _⟩, g3, _⟩ := hcon E hEQ hN hS
    obtain ⟨x, x', x1, x2, x3, x4⟩ := g1 _ _ _ hA
    obtain ⟨u, u', u1, u2, u3, u4⟩ := g3 _ _ _ hA
    obtain ⟨a1, a2⟩ := r6 E hEQ n1 (fun j a b => by rw [← m1 j a b]; exact hpp j a (by omega)) hS (fun j a b => by rw [← m1 j a b]; exact hPM j a (by omega)) (fun y hy => hW y (List.mem_append_left _ hy)) x x' Z x4 (by omega)
    obtain ⟨b1, b2⟩ := t6 E hEQ n2 (fun j a b => by rw [← m2 j a b]; exact hpp j (by omega) b) hS (fun j a b => by rw [← m2 j a b]; exact hPM j (by omega) b) (fun y hy => hW y (List.mem_append_right _ hy)) u u' Z u4 (by omega)
    refine ⟨a1.tr b1, fun j h1 h2 => ?_⟩
    by_cases q : j < C1 4
    · rw [m1 j h1 q]; exact a2 j h1 q
    · rw [m2 j (by omega) h2]; exact b2 j (by omega) h2
end RE
end QF5
