/-! BOTH SIDES: the NAMES of ARRAYS -/
section JT
variable {kd wr nm : Nat → Nat} {vv : Nat → Int64} {m z : Nat} {gA gM : Wd} {lv : Bool} {sl us B : Nat} {stk obl stkF : List Nat} {prs : PRL} {C TK : Nat → Nat} {SL : Nat → List Nat} {t d b : Nat} {fa : Int32} {wA wM : Wd} {γ α : Type} {wd : γ → Wd} {S : γ → α → Wd → Prop} {P : (Nat → Nat) → Nat → Wd → Wd → Prop}
/-- the reference behind the NAMES -/
def arM (N : Nat) (a2 a4 : Int32) (w7 : Wd) : Option (Option Int32 × Wd) := lt ((gi w7 0 42)) fun x10 => bn2 (fX12_node 40 a4 x10 (-1) (gi w7 0 7) w7) fun x11 w12 => be (fX12_expect 91 w12) fun _ w14 => lt (si w14 0 8 ((gi w14 0 8) + 1)) fun w16 => lt ((gi w16 0 29)) fun x17 => lt (si w16 0 29 a2) fun w18 => oX12_arrays_95 N a4 x10 x11 x17 0 (-1) w18
theorem m_a11 {k : Int32 → Int32 → Int32 → Wd → Option (Option Int32 × Wd)} {a1 a2 a4 : Int32} {w : Wd} {K : Int32 → Wd → Option (Option α × Wd)} : be (fX12_arrays_11 k a1 a2 a4 w) K = be (fX12_expect 285 w) fun x1 w2 => bn2 (fX12_declare (gi w 0 29) x1 2 a1 w2) fun _ w5 => be (fX12_skip 44 w5) fun x6 w7 => if x6 = true then be (k a1 a2 a4 w7) K else be (arM FU a2 a4 w7) K := by
  unfold fX12_arrays_11
  generalize FU = N
  rw [be_be]
  refine be_cg fun x1 w2 => ?_
  rw [be_bn2]
  refine bn2_cg fun x4 w5 => ?_
  rw [be_be]
  refine be_cg fun x6 w7 => ?_
  cases x6
  · rw [if_neg (by decide), if_neg (by decide)]
    rfl
  · rw [if_pos rfl, if_pos rfl]
/-- the class behind the NAMES -/
def arA (N : Nat) (a1 a3 a4 : Int32) (K : Wd → Option γ) (w9 : Wd) : Option γ := bn2 (fX4_bounds a1 w9) fun x14 w15 => bn (oX4_arrays_68 N a3 a4 x14 0 w15) K
theorem bn_bn2 {β δ ε : Type} (a : Option (δ × ε)) (f : δ → ε → Option Wd) (K : Wd → Option β) : bn (bn2 a f) K = bn2 a (fun x w => bn (f x w) K) := by
  cases a <;> rfl
theorem a_a20 {n j base : Nat} {a1 a2 a3 : Int32} {w : Wd} {K : Wd → Option γ} (h : IN1 kd wr z w t base fa) (hj : j + 1 ≤ 8192) : bn (oX4_arrays_20 (n + 1) a1 a2 a3 (Int32.ofNat (j + 1)) w) K = lt2 (fX9_take (Int32.ofNat 40) w) fun c w9 => if c = true then (lt2 (fX4_declared (Int32.ofNat 2) a2 w9) fun _ w12 => bn (oX4_arrays_20 n a1 a2 a3 (Int32.ofNat (j + 1 + 1)) w12) K) else arA FU a1 a3 (Int32.ofNat (j + 1)) K w9 := by
  show bn (fX4_arrays_20 (oX4_arrays_20 n) a1 a2 a3 (Int32.ofNat (j + 1)) w) K = _
  unfold fX4_arrays_20
  generalize FU = N
  rw [if_neg (show ¬ ((8193 : Int32) ≤ Int32.ofNat (j + 1)) from nle_iN (a := 8193) (by omega) (by omega)), if_neg (show ¬ (Int32.ofNat (j + 1) = 0) from fun h => absurd ((eq_iN (a := j + 1) (b := 0) (by omega) (by omega)).mp h) (by omega)), show (40 : Int32) = Int32.ofNat 40 from rfl, show (2 : Int32) = Int32.ofNat 2 from rfl]
  rcases fX9_take (Int32.ofNat 40) w with ⟨_ | _, u⟩
  · dsimp only [lt2, lt]
    rw [if_neg (show ¬ (false = true) by decide), if_neg (show ¬ (false = true) by decide), bn_bn2]
    rfl
  · dsimp only [lt2, lt]
    rw [if_pos rfl, if_pos rfl, ad1_iN (j + 1)]
theorem a_a200 {n : Nat} {a1 a2 a3 : Int32} {w : Wd} {K : Wd → Option γ} : bn (oX4_arrays_20 (n + 1) a1 a2 a3 0 w) K = lt2 (fX4_declared (Int32.ofNat 2) a2 w) fun _ w12 => bn (oX4_arrays_20 n a1 a2 a3 (Int32.ofNat (0 + 1)) w12) K := by
  show bn (fX4_arrays_20 (oX4_arrays_20 n) a1 a2 a3 0 w) K = _
  unfold fX4_arrays_20
  generalize FU = N
  rw [if_neg (by decide), if_pos rfl]
  rfl
/-- one of ARRAYS, not settled -/
def AR1 (s ty tk i l p : Nat) (fA fM : Wd) : Prop := gi fA 21 (i + 1) = Int32.ofNat tk ∧ gi fA 14 (i + 1) = 2 ∧ gi fA 15 (i + 1) = Int32.ofNat ty ∧ gi fA 17 (i + 1) = Int32.ofNat l ∧ gi fA 16 (i + 1) = 0 ∧ gi fA 25 tk = Int32.ofNat (i + 1) ∧ gi fM 19 i = 2 ∧ gi fM 20 i = Int32.ofNat ty ∧ gi fM 22 i = Int32.ofNat tk ∧ DC1 fA fM i s p
def ARX (kd : Nat → Nat) (s ty s1 i0 l p j : Nat) (fA fM : Wd) : Prop := ∀ i, i < j → kd (s1 + 2 * i) = 2 ∧ kd (s1 + 2 * i + 1) = 40 ∧ AR1 s ty (s1 + 2 * i) (i0 + i) l p fA fM
theorem dcC_2c {i : Nat} (h : i ≠ 1) : dcC C 2 i = C i := by
  unfold dcC
  by_cases q : i = 6
  · rw [q, upC_s, if_neg (by decide)]
    rfl
  · rw [upC_n q, upC_n h]
theorem arr_loop (hT : TOKS kd wr nm vv m z gA gM) {s p sg q s1 ty t0 : Nat} {r : PRL} {C0 : Nat → Nat} {wA0 wM0 : Wd} {KA : Wd → Option γ} {KM : Int32 → Wd → Option (Option α × Wd)} {Q : Prop} {N : Nat} (hN : N = FU) {a3 a2 a4 : Int32} (hb : 2800 ≤ b)
    (HX : ∀ lv' t' fa' uA uM C' TK' SL' j, STJ kd wr nm vv m z gA gM lv' 1 (C0 1) (s :: stk) ((p, sg, q) :: r) C' TK' SL' t' d b fa' uA uM → (lv' = true → Q ∧ d ≤ 40 ∧ t' = s1 + 2 * j + 1 ∧ t' ≤ m ∧ C' = upC C0 1 (C0 1 + j + 1) ∧ STEP C0 t0 (s :: stk) ((p, sg, q) :: r) obl wA0 wM0 C' t' uA uM ∧ kd t' ≠ 40 ∧ kd (s1 + 2 * j) = 2 ∧ (∀ i, i ≤ j → TK' (C0 1 + i) = s1 + 2 * i) ∧ FACT (s :: stk) ((p, sg, q) :: r) obl (C0 0) C' t' (C' 0) (fun fA fM => ARX kd s ty s1 (C0 1) r.length p j fA fM ∧ AR1 s ty (s1 + 2 * j) (C0 1 + j) r.length p fA fM) uA uM) → (lv' = false → t' = z - 1) → j + 1 ≤ t' → GLJ kd wr nm z gA gM wd lv' stkF fa' B (arA N (Int32.ofNat d) a3 (Int32.ofNat (j + 1)) KA uA) (be (arM N a2 a4 uM) KM) S)
    {fo fm : Nat} : ∀ (n : Nat) (lv : Bool) (C TK : Nat → Nat) (SL : Nat → List Nat) (t : Nat) (fa : Int32) (wA wM : Wd) (j : Nat), z ≤ t + n → j + 1 ≤ t → STJ kd wr nm vv m z gA gM lv 0 (C0 1) (s :: stk) ((p, sg, q) :: r) C TK SL t d b fa wA wM →
      (lv = true → (Q ∧ d ≤ 40) ∧ t = s1 + 2 * j ∧ C = upC C0 1 (C0 1 + j) ∧ STEP C0 t0 (s :: stk) ((p, sg, q) :: r) obl wA0 wM0 C t wA wM ∧ (∀ i, i < j → TK (C0 1 + i) = s1 + 2 * i) ∧ FACT (s :: stk) ((p, sg, q) :: r) obl (C0 0) C t (C 0) (fun fA fM => ARX kd s ty s1 (C0 1) r.length p j fA fM) wA wM) → (lv = false → t = z - 1) →
      GLJ kd wr nm z gA gM wd lv stkF fa B (lt2 (fX4_declared (Int32.ofNat 2) (Int32.ofNat ty) wA) fun _ w12 => bn (oX4_arrays_20 (fo + n + 1) (Int32.ofNat d) (Int32.ofNat ty) a3 (Int32.ofNat (j + 1)) w12) KA) (be (fX12_arrays_11 (oX12_arrays_11 (fm + n)) (Int32.ofNat ty) a2 a4 wM) KM) S := by
  intro n
  induction n with
  | zero =>
    intro lv C TK SL t fa wA wM j hz hj hst
    have := hst.in1.tz
    omega
  | succ n ih =>
    intro lv C TK SL t fa wA wM j hz hj hst hl hdd
    have hin := hst.in1
    have htz := hin.tz
    have hz9 := hin.z9
    rw [m_a11, ← hN]
    refine J.declare (sort := 2) (kind := 2) (SC := fun w2 => gi wM 0 29) (P := fun C' t' a c => lv = true → PF C0 t0 (s :: stk) ((p, sg, q) :: r) obl wA0 wM0 C' t' a c ∧ PFA (s :: stk) ((p, sg, q) :: r) obl (C0 0) C t (C 0) (fun fA fM => ARX kd s ty s1 (C0 1) r.length p j fA fM) C' t' a c) (KA := fun _ w12 => bn (oX4_arrays_20 (fo + (n + 1) + 1) (Int32.ofNat d) (Int32.ofNat ty) a3 (Int32.ofNat (j + 1)) w12) KA) (KM := fun _ _ w5 => be (fX12_skip 44 w5) fun x6 w7 => if x6 = true then be (oX12_arrays_11 (fm + (n + 1)) (Int32.ofNat ty) a2 a4 w7) KM else be (arM N a2 a4 w7) KM) hT (STBJ.if fun _ => STBJ.and PF.st0 PFA.stb) hst (fun h _ => ⟨(hl h).2.2.2.1, LEC.rf, Nat.le_refl _, (hl h).2.2.2.2.2⟩) hb (by omega) (by omega) (by omega) (fun h => ⟨fun hk => m_expect (x := 285) (k := 2) (hst.jl h).2.2.1 (hl h).1.2 rfl (by omega) hk, fun hk => m_expect_no (x := 285) (k := 2) (hst.jl h).2.2.1 rfl (by omega) (Or.inr hk) (by omega)⟩) (fun h => (hst.jl h).2.2.2.2.2.2.2.2.2.1) (fun lv1 t1 fa1 x vA vM TK1 SL1 hst1 hl1 hd1 => ?_)
    have hin1 := hst1.in1
    rw [show fo + (n + 1) + 1 = (fo + n + 1) + 1 by omega, a_a20 hin1 (by omega), ← hN]
    cases lv1
    · have ht1 := hd1 rfl
      rw [a_take_no hin1.1 (by omega) (by rw [ht1]; have := hin1.1.2.2.2.1 (z - 1) (by omega); omega), lt2q, if_neg (show ¬ (false = true) by decide)]
      refine GLJ.ref (rM' := be (arM N a2 a4 vM) KM) (fun h => absurd h (by decide)) ?_
      exact HX false t1 fa1 vA vM _ TK1 SL1 j hst1 (fun h => absurd h (by decide)) hd1 (by omega)
    · obtain ⟨w1, w2, w3, w4, w5, w6, w7, w8, l, pr, sg', q', r', e1, e2, hN', e4, e5⟩ := hl1 rfl
      obtain ⟨⟨y0, yd⟩, y1, y2, y3, y4, y5⟩ := hl w1
      obtain ⟨e6, e7⟩ := List.cons.inj e1
      obtain ⟨e8, e9⟩ := Prod.mk.inj e6
      rw [← e8] at hN'
      rw [← e7] at e2
      rw [e2] at hN'
      obtain ⟨v1, v2⟩ := w8 w1
      have hC1 : dcC C 2 = upC C0 1 (C0 1 + (j + 1)) := by
        funext i
        by_cases i1 : i = 1
        · rw [i1, dcC_1, upC_s, y2, upC_s]
          rfl
        · rw [dcC_2c i1, y2, upC_n i1, upC_n i1]
      have hCi : C 1 = C0 1 + j := by rw [y2, upC_s]
      rw [hC1] at hst1 v1
      have hLC : LEC C (upC C0 1 (C0 1 + (j + 1))) := fun i => by
        rw [← hC1]
        exact dcC_le i
      have hTK : ∀ i, i ≤ j → TK1 (C0 1 + i) = s1 + 2 * i := fun i hi => by
        rw [w6]
        by_cases q9 : i = j
        · rw [q9, ← hCi]
          show upF TK (C 1) t (C 1) = _
          rw [show upF TK (C 1) t (C 1) = t from if_pos rfl, y1]
        · rw [show upF TK (C 1) t (C0 1 + i) = TK (C0 1 + i) from if_neg (by omega)]
          exact y4 i (by omega)
      obtain ⟨⟨n1, n2, n3, n4, n5, n6, n7, n8, n9, n10, n11⟩, m1, m2, m3, m4, m5, m6, m7, m8, m9⟩ := hN'
      have hF1 : FACT (s :: stk) ((p, sg, q) :: r) obl (C0 0) (upC C0 1 (C0 1 + (j + 1))) t1 ((upC C0 1 (C0 1 + (j + 1))) 0) (fun fA fM => ARX kd s ty s1 (C0 1) r.length p j fA fM) vA vM := v2.2.2.wk (Nat.le_refl _) hLC (by omega) (Or.inl (by rw [y2, upC_n (by omega), upC_n (by omega)])) (fun _ h _ => h) (fun y hy _ => ⟨y, hy, rfl⟩) (fun _ h _ => h)
      have hF2 : FACT (s :: stk) ((p, sg, q) :: r) obl (C0 0) (upC C0 1 (C0 1 + (j + 1))) t1 ((upC C0 1 (C0 1 + (j + 1))) 0) (fun fA fM => AR1 s ty (s1 + 2 * j) (C0 1 + j) r.length p fA fM) vA vM := fun gA gM hA hM hE => by
        have gm : ∀ k, 18 ≤ k ∧ k ≤ 28 → gi gM k (C 1) = gi vM k (C 1) := fun k hk => (hM k (C 1) (Or.inr (Or.inr (Or.inr (Or.inr (Or.inl ⟨hk.1, hk.2, by rw [upC_s]; omega⟩)))))).1
        have ga : ∀ k, 14 ≤ k ∧ k ≤ 24 → gi gA k (C 1 + 1) = gi vA k (C 1 + 1) := fun k hk => hA k (C 1 + 1) (Or.inl ⟨hk.1, hk.2, by rw [upC_s]; omega⟩)
        have g25 : gi gA 25 t = gi vA 25 t := hA 25 t (Or.inr (Or.inl ⟨rfl, by omega⟩))
        show AR1 s ty (s1 + 2 * j) (C0 1 + j) r.length p gA gM
        unfold AR1
        rw [← hCi, ← y1, gm 19 (by omega), gm 20 (by omega), gm 22 (by omega), ga 21 (by omega), ga 14 (by omega), ga 15 (by omega), ga 17 (by omega), ga 16 (by omega), g25]
        exact ⟨n1, n2, n3, n4, n5, n11, m1, m2, m3, (DC1.nw m4 w7).ext (gm 23 (by omega)) (hA 29 (C 1 + 1) (Or.inr (Or.inr (Or.inr (Or.inl ⟨by omega, by omega, by rw [upC_s]; omega⟩))))) hE⟩
      refine J.take (c := 40) (P := fun C' t' a c => PF C0 t0 (s :: stk) ((p, sg, q) :: r) obl wA0 wM0 C' t' a c ∧ PFA (s :: stk) ((p, sg, q) :: r) obl (C0 0) (upC C0 1 (C0 1 + (j + 1))) t1 ((upC C0 1 (C0 1 + (j + 1))) 0) (fun fA fM => ARX kd s ty s1 (C0 1) r.length p j fA fM ∧ AR1 s ty (s1 + 2 * j) (C0 1 + j) r.length p fA fM) C' t' a c) hT (STBJ.and PF.st0 PFA.stb) hst1 (fun _ => ⟨v1, LEC.rf, Nat.le_refl _, hF1.and hF2⟩) (by omega) (fun _ => yd) (by omega) rfl (fun h40 sA sM hst4 hl4 => ?_) (fun h40 => ?_)
      · obtain ⟨k1, k2, k3⟩ := hl4 rfl
        rw [if_pos rfl, if_pos rfl]
        have e3 : ∀ w, oX12_arrays_11 (fm + (n + 1)) (Int32.ofNat ty) a2 a4 w = fX12_arrays_11 (oX12_arrays_11 (fm + n)) (Int32.ofNat ty) a2 a4 w := fun _ => rfl
        rw [e3]
        refine ih true (upC C0 1 (C0 1 + (j + 1))) TK1 SL1 (t1 + 1) fa1 sA sM (j + 1) (by omega) (by omega) hst4 (fun _ => ⟨⟨y0, yd⟩, by omega, rfl, k2, fun i hi => hTK i (by omega), ?_⟩) (fun h => absurd h (by decide))
        refine (k3.2.2.wk (Nat.le_refl _) LEC.rf (by omega) (Or.inl rfl) (fun _ h _ => h) (fun y hy _ => ⟨y, hy, rfl⟩) (fun _ h _ => h)).imp (fun fA fM hh i hi => ?_)
        by_cases q9 : i = j
        · rw [q9]
          exact ⟨by rw [← y1]; exact w2, by rw [show s1 + 2 * j + 1 = t1 by omega]; exact h40, hh.2⟩
        · exact hh.1 i (by omega)
      · rw [if_neg (show ¬ (false = true) by decide), if_neg (show ¬ (false = true) by decide)]
        exact HX true t1 fa1 vA vM _ TK1 SL1 j hst1 (fun _ => ⟨y0, yd, by omega, by omega, by rw [show C0 1 + j + 1 = C0 1 + (j + 1) by omega], v1, h40, by rw [← y1]; exact w2, hTK, hF1.and hF2⟩) (fun h => absurd h (by decide)) (by omega)
end JT
