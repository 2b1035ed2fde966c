/-! BOTH SIDES: a procedure -/
section JT
variable {kd wr nm : Nat → Nat} {vv : Nat → Int64} {m z : Nat} {gA gM : Wd} {lv : Bool} {sl us B : Nat} {stk obl stkF : List Nat} {prs : PRL} {C TK : Nat → Nat} {SL : Nat → List Nat} {t d b : Nat} {fa : Int32} {wA wM : Wd} {γ α : Type} {wd : γ → Wd} {S : γ → α → Wd → Prop} {P : (Nat → Nat) → Nat → Wd → Wd → Prop}
/-- the class behind its NAME -/
def prA (rc : TX4_block) (x1 : Int32) (K : Int32 → Wd → Option γ) (x3 : Int32) (w4 : Wd) : Option γ := bn (fX7_enter (fX5_enter x3 (fX0_put__ 33 w4).2)) fun w8 => if gi w8 3 5 = 0 then bn (fX4_heading x1 x3 w8) fun w10 => bn2 (fX4_procedure_97 rc x1 x3 (fX0_put__ 33 w4).1 w10) K else bn2 (fX4_procedure_97 rc x1 x3 (fX0_put__ 33 w4).1 (fX5_take (fX8_slot x3 (fX9_goTo (fX8_body x3 w8) w8)) (fX9_goTo (fX8_body x3 w8) w8)).2) K
theorem a_proc {rc : TX4_block} {a1 a2 : Int32} {w : Wd} {K : Int32 → Wd → Option γ} : bn2 (fX4_procedure rc a1 a2 w) K = lt2 (fX9_open a1 w) fun x1 w2 => lt2 (fX4_declared (Int32.ofNat 3) a2 w2) (prA rc x1 K) := by
  unfold fX4_procedure
  rw [bn2_lt2]
  refine congrArg (lt2 (fX9_open a1 w)) ?_
  funext x1 w2
  rw [bn2_lt2, show (3 : Int32) = Int32.ofNat 3 from rfl]
  refine congrArg (lt2 (fX4_declared (Int32.ofNat 3) a2 w2)) ?_
  funext x3 w4
  unfold prA
  rw [lt2q, ltq, bn2_bn]
  refine bn_cg fun w8 => ?_
  by_cases q : gi w8 3 5 = 0
  · rw [if_pos q, if_pos q, bn2_bn]
  · rw [if_neg q, if_neg q]
    rfl
/-- the reference behind its NAME -/
def prM (rc : TX12_block) (x8 : Int32) (w9 : Wd) : Option (Option Int32 × Wd) := lt ((gi w9 0 30)) fun x10 => lt ((gi w9 0 29)) fun x11 => lt (si w9 0 30 (gi w9 0 53)) fun w12 => lt (si w12 0 53 ((gi w12 0 53) + 1)) fun w13 => if inb x8 5000 = true then lt (si w13 24 (Int32.toNatClampNeg x8) (gi w13 0 30)) fun w15 => if inb (gi w15 0 30) 1200 = true then lt (si w15 29 (Int32.toNatClampNeg (gi w15 0 30)) x8) fun w17 => if inb (gi w17 0 30) 1200 = true then lt (si w17 37 (Int32.toNatClampNeg (gi w17 0 30)) x10) fun w19 => if inb x10 1200 = true then if inb (gi w19 0 30) 1200 = true then lt (si w19 30 (Int32.toNatClampNeg (gi w19 0 30)) ((gi w19 30 (Int32.toNatClampNeg x10)) + 1)) fun w22 => if inb (gi w22 0 30) 1200 = true then lt (si w22 34 (Int32.toNatClampNeg (gi w22 0 30)) 0) fun w24 => if inb (gi w24 0 30) 1200 = true then lt (si w24 35 (Int32.toNatClampNeg (gi w24 0 30)) 1) fun w26 => if inb (gi w26 0 30) 1200 = true then lt (si w26 31 (Int32.toNatClampNeg (gi w26 0 30)) 0) fun w28 => if inb (gi w28 0 30) 1200 = true then lt (si w28 32 (Int32.toNatClampNeg (gi w28 0 30)) (gi w28 0 42)) fun w30 => bn2 (fX12_newScope (gi w30 0 29) (-1) w30) fun x31 w32 => lt (si w32 0 29 x31) fun w33 => be (fX12_skip 40 w33) fun x34 w35 => if x34 = true then (lt (si w35 0 8 ((gi w35 0 8) + 1)) fun w38 => oX12_procedure_187 rc FU x10 x11 w38) else (fX12_procedure_283 rc x10 x11 w35) else none else none else none else none else none else none else none else none else none
theorem m_proc {rc : TX12_block} {a1 : Int32} {w : Wd} {K : Int32 → Wd → Option (Option α × Wd)} : be (fX12_procedure rc a1 w) K = be (fX12_taken w) fun x1 w2 => lt (si w2 0 8 ((gi w2 0 8) + 1)) fun w4 => be (fX12_expect 285 w4) fun x5 w6 => bn2 (fX12_declare (gi w4 0 29) x5 3 a1 w6) fun x8 w9 => be (prM rc x8 w9) K := by
  unfold fX12_procedure prM
  generalize FU = N
  rw [be_be]
  refine be_cg fun x1 w2 => ?_
  rw [ltq, ltq, be_be]
  refine be_cg fun x5 w6 => ?_
  rw [be_bn2]
theorem pr_ok {rc : TX12_block} {N i p pn e lp : Nat} {w : Wd} {K : Int32 → Wd → Option (Option α × Wd)} (hN : N = FU) (hi : i < 5000) (h30 : gi w 0 30 = Int32.ofNat p) (hp : p < 1200) (h53 : gi w 0 53 = Int32.ofNat pn) (hpn : pn < 1200) (hlp : gi w 30 p = Int32.ofNat lp) (hne : p ≠ pn) (h42 : gi w 0 42 = Int32.ofNat e) :
    ∃ u, be (prM rc (Int32.ofNat i) w) K = (bn2 (fX12_newScope (gi u 0 29) (-1) u) fun x31 w32 => lt (si w32 0 29 x31) (pfM rc N (Int32.ofNat p) (gi w 0 29) K)) ∧ OFF (fun k j => (k = 0 ∧ (j = 30 ∨ j = 53)) ∨ (k = 24 ∧ j = i) ∨ ((29 ≤ k ∧ k ≤ 32 ∨ k = 34 ∨ k = 35 ∨ k = 37) ∧ j = pn)) u w ∧ gi u 0 30 = Int32.ofNat pn ∧ gi u 0 53 = Int32.ofNat (pn + 1) ∧ gi u 24 i = Int32.ofNat pn ∧ gi u 29 pn = Int32.ofNat i ∧ gi u 37 pn = Int32.ofNat p ∧ gi u 30 pn = Int32.ofNat (lp + 1) ∧ gi u 34 pn = 0 ∧ gi u 35 pn = 1 ∧ gi u 31 pn = 0 ∧ gi u 32 pn = Int32.ofNat e := by
  subst hN
  unfold prM
  generalize FU = N
  rw [ltq, ltq, ltq, ltq, h53, gi_si1 (show ¬ (0 = 0 ∧ 53 = 30) by omega), h53, ad1_iN]
  have a30 : gi (si (si w 0 30 (Int32.ofNat pn)) 0 53 (Int32.ofNat (pn + 1))) 0 30 = Int32.ofNat pn := by rw [gi_si1 (by omega), gi_si0]
  have a53 : gi (si (si w 0 30 (Int32.ofNat pn)) 0 53 (Int32.ofNat (pn + 1))) 0 53 = Int32.ofNat (pn + 1) := gi_si0 _ _ _ _
  have aO : OFF (fun k j => k = 0 ∧ (j = 30 ∨ j = 53)) (si (si w 0 30 (Int32.ofNat pn)) 0 53 (Int32.ofNat (pn + 1))) w := OFF.tr (OFF.si (by omega)) (OFF.si (by omega))
  generalize si (si w 0 30 (Int32.ofNat pn)) 0 53 (Int32.ofNat (pn + 1)) = w13 at a30 a53 aO ⊢
  have hb := inb_iN hpn (show 1200 < 2147483648 by omega)
  have htc : (Int32.ofNat pn).toNatClampNeg = pn := tc_iN (by omega)
  rw [if_pos (inb_iN hi (by omega)), ltq, tc_iN (by omega), a30]
  have b30 : gi (si w13 24 i (Int32.ofNat pn)) 0 30 = Int32.ofNat pn := by rw [gi_si1 (by omega)]; exact a30
  rw [b30, if_pos hb, ltq, htc]
  have c30 : gi (si (si w13 24 i (Int32.ofNat pn)) 29 pn (Int32.ofNat i)) 0 30 = Int32.ofNat pn := by rw [gi_si1 (by omega)]; exact b30
  rw [c30, if_pos hb, ltq, htc, h30]
  have d30 : gi (si (si (si w13 24 i (Int32.ofNat pn)) 29 pn (Int32.ofNat i)) 37 pn (Int32.ofNat p)) 0 30 = Int32.ofNat pn := by rw [gi_si1 (by omega)]; exact c30
  have dlp : gi (si (si (si w13 24 i (Int32.ofNat pn)) 29 pn (Int32.ofNat i)) 37 pn (Int32.ofNat p)) 30 p = Int32.ofNat lp := by
    rw [gi_si1 (by omega), gi_si1 (by omega), gi_si1 (by omega), (aO 30 p (by omega)).1]; exact hlp
  rw [d30, if_pos (inb_iN hp (by omega)), if_pos hb, ltq, htc, tc_iN (by omega), dlp, ad1_iN]
  have e30 : gi (si (si (si (si w13 24 i (Int32.ofNat pn)) 29 pn (Int32.ofNat i)) 37 pn (Int32.ofNat p)) 30 pn (Int32.ofNat (lp + 1))) 0 30 = Int32.ofNat pn := by rw [gi_si1 (by omega)]; exact d30
  have eO : OFF (fun k j => (k = 0 ∧ (j = 30 ∨ j = 53)) ∨ (k = 24 ∧ j = i) ∨ ((29 ≤ k ∧ k ≤ 32 ∨ k = 34 ∨ k = 35 ∨ k = 37) ∧ j = pn)) (si (si (si (si w13 24 i (Int32.ofNat pn)) 29 pn (Int32.ofNat i)) 37 pn (Int32.ofNat p)) 30 pn (Int32.ofNat (lp + 1))) w := OFF.tr (OFF.si (by omega)) (OFF.tr (OFF.si (by omega)) (OFF.tr (OFF.si (by omega)) (OFF.tr (OFF.si (by omega)) (aO.mono fun k j h => by omega))))
  have e53 : gi (si (si (si (si w13 24 i (Int32.ofNat pn)) 29 pn (Int32.ofNat i)) 37 pn (Int32.ofNat p)) 30 pn (Int32.ofNat (lp + 1))) 0 53 = Int32.ofNat (pn + 1) := by rw [gi_si1 (by omega), gi_si1 (by omega), gi_si1 (by omega), gi_si1 (by omega)]; exact a53
  have e24 : gi (si (si (si (si w13 24 i (Int32.ofNat pn)) 29 pn (Int32.ofNat i)) 37 pn (Int32.ofNat p)) 30 pn (Int32.ofNat (lp + 1))) 24 i = Int32.ofNat pn := by rw [gi_si1 (by omega), gi_si1 (by omega), gi_si1 (by omega), gi_si0]
  have e29 : gi (si (si (si (si w13 24 i (Int32.ofNat pn)) 29 pn (Int32.ofNat i)) 37 pn (Int32.ofNat p)) 30 pn (Int32.ofNat (lp + 1))) 29 pn = Int32.ofNat i := by rw [gi_si1 (by omega), gi_si1 (by omega), gi_si0]
  have e37 : gi (si (si (si (si w13 24 i (Int32.ofNat pn)) 29 pn (Int32.ofNat i)) 37 pn (Int32.ofNat p)) 30 pn (Int32.ofNat (lp + 1))) 37 pn = Int32.ofNat p := by rw [gi_si1 (by omega), gi_si0]
  have e30' : gi (si (si (si (si w13 24 i (Int32.ofNat pn)) 29 pn (Int32.ofNat i)) 37 pn (Int32.ofNat p)) 30 pn (Int32.ofNat (lp + 1))) 30 pn = Int32.ofNat (lp + 1) := gi_si0 _ _ _ _
  generalize si (si (si (si w13 24 i (Int32.ofNat pn)) 29 pn (Int32.ofNat i)) 37 pn (Int32.ofNat p)) 30 pn (Int32.ofNat (lp + 1)) = w22 at e30 eO e53 e24 e29 e37 e30' ⊢
  rw [e30, if_pos hb, ltq, htc]
  have f30 : gi (si w22 34 pn 0) 0 30 = Int32.ofNat pn := by rw [gi_si1 (by omega)]; exact e30
  rw [f30, if_pos hb, ltq, htc]
  have g30 : gi (si (si w22 34 pn 0) 35 pn 1) 0 30 = Int32.ofNat pn := by rw [gi_si1 (by omega)]; exact f30
  rw [g30, if_pos hb, ltq, htc]
  have h30' : gi (si (si (si w22 34 pn 0) 35 pn 1) 31 pn 0) 0 30 = Int32.ofNat pn := by rw [gi_si1 (by omega)]; exact g30
  have h42' : gi (si (si (si w22 34 pn 0) 35 pn 1) 31 pn 0) 0 42 = Int32.ofNat e := by rw [gi_si1 (by omega), gi_si1 (by omega), gi_si1 (by omega), (eO 0 42 (by omega)).1]; exact h42
  rw [h30', if_pos hb, ltq, htc, h42']
  refine ⟨si (si (si (si w22 34 pn 0) 35 pn 1) 31 pn 0) 32 pn (Int32.ofNat e), ?_, OFF.tr (OFF.si (by omega)) (OFF.tr (OFF.si (by omega)) (OFF.tr (OFF.si (by omega)) (OFF.tr (OFF.si (by omega)) eO))), ?_, ?_, ?_, ?_, ?_, ?_, ?_, ?_, ?_, gi_si0 _ _ _ _⟩
  · rw [be_bn2]
    refine bn2_cg fun x31 w32 => ?_
    rw [ltq, ltq]
    unfold pfM
    rw [be_be]
    refine be_cg fun c w35 => ?_
    cases c
    · rw [if_neg (by decide), if_neg (by decide)]
    · rw [if_pos rfl, if_pos rfl]
      rfl
  · rw [gi_si1 (by omega)]; exact h30'
  · rw [gi_si1 (by omega), gi_si1 (by omega), gi_si1 (by omega), gi_si1 (by omega)]; exact e53
  · rw [gi_si1 (by omega), gi_si1 (by omega), gi_si1 (by omega), gi_si1 (by omega)]; exact e24
  · rw [gi_si1 (by omega), gi_si1 (by omega), gi_si1 (by omega), gi_si1 (by omega)]; exact e29
  · rw [gi_si1 (by omega), gi_si1 (by omega), gi_si1 (by omega), gi_si1 (by omega)]; exact e37
  · rw [gi_si1 (by omega), gi_si1 (by omega), gi_si1 (by omega), gi_si1 (by omega)]; exact e30'
  · rw [gi_si1 (by omega), gi_si1 (by omega), gi_si1 (by omega), gi_si0]
  · rw [gi_si1 (by omega), gi_si1 (by omega), gi_si0]
  · rw [gi_si1 (by omega), gi_si0]
theorem e_enter5 {x : Int32} {w : Wd} : OFF PAN (fX5_enter x w) w := by
  unfold fX5_enter
  have h1 : OFF PAN (si w 34 5 ((gi w 34 5) + 1)) w := OFF.si (by unfold PAN; omega)
  rw [ltq]
  generalize si w 34 5 ((gi w 34 5) + 1) = w1 at h1 ⊢
  have h2 : OFF PAN (rsi w1 35 64 (gi w1 34 5) x) w1 := OFF.rsi (fun _ => by unfold PAN; omega)
  rw [ltq]
  generalize rsi w1 35 64 (gi w1 34 5) x = w2 at h2 ⊢
  have h3 : OFF PAN (rsi w2 36 64 (gi w2 34 5) 6) w2 := OFF.rsi (fun _ => by unfold PAN; omega)
  rw [ltq]
  generalize rsi w2 36 64 (gi w2 34 5) 6 = w3 at h3 ⊢
  have h4 : OFF PAN (rsi w3 37 64 (gi w3 34 5) 6) w3 := OFF.rsi (fun _ => by unfold PAN; omega)
  rw [ltq]
  generalize rsi w3 37 64 (gi w3 34 5) 6 = w4 at h4 ⊢
  have h5 : OFF PAN (rsi w4 38 64 (gi w4 34 5) 0) w4 := OFF.rsi (fun _ => by unfold PAN; omega)
  rw [ltq]
  generalize rsi w4 38 64 (gi w4 34 5) 0 = w5 at h5 ⊢
  have h6 : OFF PAN (rsi w5 39 64 (gi w5 34 5) 2) w5 := OFF.rsi (fun _ => by unfold PAN; omega)
  rw [ltq]
  exact OFF.tr h6 (OFF.tr h5 (OFF.tr h4 (OFF.tr h3 (OFF.tr h2 h1))))
theorem ent5_ok {x : Int32} {w : Wd} {l : Nat} (h : gi w 34 5 = Int32.ofNat l) (hl : l ≤ 40) : OFF (fun k j => (k = 34 ∧ j = 5) ∨ k = 35 ∨ (36 ≤ k ∧ k ≤ 39 ∧ j = l + 1)) (fX5_enter x w) w ∧ gi (fX5_enter x w) 34 5 = Int32.ofNat (l + 1) ∧ gi (fX5_enter x w) 36 (l + 1) = 6 ∧ gi (fX5_enter x w) 38 (l + 1) = 0 := by
  have e : fX5_enter x w = si (si (si (si (si (si w 34 5 (Int32.ofNat (l + 1))) 35 (l + 1) x) 36 (l + 1) 6) 37 (l + 1) 6) 38 (l + 1) 0) 39 (l + 1) 2 := by
    unfold fX5_enter
    rw [ltq, ltq, ltq, ltq, ltq, ltq, h, ad1_iN, gi_si0, rsi_iN (by omega) (by omega), gi_si1 (by omega), gi_si0, rsi_iN (by omega) (by omega), gi_si1 (by omega), gi_si1 (by omega), gi_si0, rsi_iN (by omega) (by omega), gi_si1 (by omega), gi_si1 (by omega), gi_si1 (by omega), gi_si0, rsi_iN (by omega) (by omega), gi_si1 (by omega), gi_si1 (by omega), gi_si1 (by omega), gi_si1 (by omega), gi_si0, rsi_iN (by omega) (by omega)]
  rw [e]
  refine ⟨OFF.tr (OFF.si (by omega)) (OFF.tr (OFF.si (by omega)) (OFF.tr (OFF.si (by omega)) (OFF.tr (OFF.si (by omega)) (OFF.tr (OFF.si (by omega)) (OFF.si (by omega)))))), ?_, ?_, ?_⟩
  · rw [gi_si1 (by omega), gi_si1 (by omega), gi_si1 (by omega), gi_si1 (by omega), gi_si1 (by omega), gi_si0]
  · rw [gi_si1 (by omega), gi_si1 (by omega), gi_si1 (by omega), gi_si0]
  · rw [gi_si1 (by omega), gi_si0]
/-- symbols of a heading that is done -/
theorem HDZ.sym {c1 pn p sp sf l ty0 tok nf o : Nat} {Cb : Nat → Nat} {uA uM : Wd} (h : HDZ kd wr nm TK c1 pn p sp sf l ty0 tok nf o C t uA uM) (hk : KEP Cb c1 tok C TK) (htm : t ≤ m) (hkt : kd tok = 2) (hty : ty0 ≤ 2) (hp4 : p < C 4) (hpn : 1 ≤ pn) (hlp : gi uM 30 p = Int32.ofNat l) : ∀ i, c1 ≤ i → i < c1 + 1 + nf → SYM kd m C TK uA uM i := fun i hi1 hi2 => by
  obtain ⟨⟨a1, a2, a3, ⟨⟨p1, p2, p3, p4, p5, p6⟩, ⟨q1, q2, q3, q4, q5⟩, r1, r2, r3, r4⟩, ⟨a5, a6, a7⟩, a8⟩, h28, _⟩ := h
  by_cases q : i = c1
  · subst q
    refine ⟨by rw [hk.2]; omega, by rw [hk.2]; exact hkt, by rw [hk.2]; exact p5, by rw [hk.2]; exact q3, by rw [hk.2]; exact p6, by rw [p2, q2], ⟨ty0, hty, q2⟩, ⟨p, l, q4, hp4, p4, hlp⟩, Or.inr (Or.inr (Or.inl ⟨q1, p1, p3, pn, nf, i + 1, hpn, a2, q5, r1, a7, r3, a5, ?_, by omega, by omega⟩))⟩
    rw [a6]
  · obtain ⟨j, rfl⟩ : ∃ j, i = c1 + 1 + j := ⟨i - (c1 + 1), by omega⟩
    obtain ⟨b1, b2, ⟨f1, f2, f3, f39, f4, f5, f6, f7⟩, ⟨ty, g1, g2, g3⟩, k, c, g4, g5, g6, g7, g8, g9⟩ := a8 j (by omega)
    refine ⟨by omega, b1, f1, f5, f2, by rw [g3.1, g2], ⟨ty, g1, g2⟩, ⟨pn, l + 1, f6, a2, f3, r2⟩, Or.inr (Or.inr (Or.inr (Or.inr (Or.inr ⟨f4, f39, by rw [g7, g6], ⟨k, g4, g6⟩, ?_, fun h1 => by rw [g2]; exact of_ne (k := 0) (by omega) (by omega) (g3.2.1 h1), fun h5 => by rw [g2, g3.2.2 h5]; rfl⟩))))⟩
    rcases h28 j (by omega) with ⟨x1, x2⟩ | ⟨x1, x2, x3⟩
    · exact Or.inl ⟨x1, by rw [show c1 + 1 + j + 1 = c1 + 2 + j by omega]; exact x2⟩
    · exact Or.inr ⟨x1, by rw [show c1 + 1 + j + 1 = c1 + 2 + j by omega]; exact x2, x3⟩
/-- facts don't speak of where a procedure that is not closed has its STATEMENT -/
theorem FACT.o33 {lo pd tf pn : Nat} {Cf : Nat → Nat} {Φ : Wd → Wd → Prop} {uA uM vM : Wd} (h : FACT stk prs obl lo Cf tf pd Φ uA uM) (hp : ∃ y ∈ prs, y.1 = pn) (hO : OFF (fun k j => (k = 33 ∨ k = 38) ∧ j = pn) vM uM) : FACT stk prs obl lo Cf tf pd Φ uA vM := fun fA fM hA hM hE => h fA fM hA (fun k j hk => by
  have h1 := hM k j hk
  have h2 := hO k j (fun hq => by
    obtain ⟨y, y1, y2⟩ := hp
    rcases hk with hk | hk | hk | hk | hk | hk | hk | hk | hk
    · omega
    · omega
    · omega
    · omega
    · omega
    · exact hk.2.2 (by omega) y y1 (by omega)
    · omega
    · omega
    · omega)
  exact ⟨h1.1.trans h2.1, h1.2.trans h2.2⟩) ((EXF.off hO (fun k j hk => by omega)).tr hE)
end JT
section JT
variable {kd wr nm : Nat → Nat} {vv : Nat → Int64} {m z : Nat} {gA gM : Wd} {lv : Bool} {sl us B : Nat} {stk obl stkF : List Nat} {prs : PRL} {C TK : Nat → Nat} {SL : Nat → List Nat} {t d b : Nat} {fa : Int32} {wA wM : Wd} {γ α : Type} {wd : γ → Wd} {S : γ → α → Wd → Prop} {P : (Nat → Nat) → Nat → Wd → Wd → Prop}
def p97 (x1 a5 : Int32) (w4 : Wd) : Wd := (fX0_patch a5 (fX0_set (x1 + 1) (Int32.toInt64 (fX5_size (fX0_put__ 43 w4).2)) (fX0_put__ 43 w4).2)).2
theorem e_p97 {x1 a5 : Int32} {w : Wd} : OFF PRE (p97 x1 a5 w) w := by
  unfold p97
  have h1 : OFF PRE (fX0_put__ 43 w).2 w := e_put__
  generalize (fX0_put__ 43 w).2 = w1 at h1 ⊢
  have h2 : OFF PRE (fX0_set (x1 + 1) (Int32.toInt64 (fX5_size w1)) w1) w1 := e_set
  generalize fX0_set (x1 + 1) (Int32.toInt64 (fX5_size w1)) w1 = w2 at h2 ⊢
  exact OFF.tr e_patch (OFF.tr h2 h1)
theorem e_head4 {x : Int32} {w : Wd} : OFF PRE (fX4_head x w).2 w := by
  have e : (fX4_head x w).2 = (fX0_word 0 (fX0_word (Int32.toInt64 (fX8_slot x (fX0_setCell x w))) (fX0_setCell x w)).2).2 := rfl
  rw [e]
  have h1 : OFF PRE (fX0_setCell x w) w := e_setCell
  generalize fX0_setCell x w = w1 at h1 ⊢
  generalize Int32.toInt64 (fX8_slot x w1) = v
  have h2 : OFF PRE (fX0_word v w1).2 w1 := e_word
  generalize (fX0_word v w1).2 = w2 at h2 ⊢
  have h3 : OFF PRE (fX0_word 0 w2).2 w2 := e_word
  exact OFF.tr h3 (OFF.tr h2 h1)
theorem a_97 {rc rc1 : TX4_block} {a3 a4 a5 : Int32} {w : Wd} {K : Int32 → Wd → Option γ} (hrc : ∀ w, rc 4 a3 0 0 w = fX4_scoped rc1 a3 w) : bn2 (fX4_procedure_97 rc a3 a4 a5 w) K = bn (fX7_enter (fX4_head a4 w).2) fun w3 => bn2 (rc1 5 a3 0 0 w3) fun _ w4 => bn (fX7_leave w4) fun w5 => bn (fX7_leave (p97 (fX4_head a4 w).1 a5 w5)) fun w11 => K 0 (fX5_leave w11) := by
  unfold fX4_procedure_97
  rw [bn2_lt2, lt2q, hrc, bn2_bn2]
  unfold fX4_scoped
  rw [bn2_bn]
  refine bn_cg fun w3 => ?_
  rw [bn2_bn2]
  refine bn2_cg fun _ w4 => ?_
  rw [bn2_bn]
  refine bn_cg fun w5 => ?_
  rw [bn2_so]
  unfold p97
  rw [bn2_lt2, lt2q, ltq, ltq, lt2q]
  rw [bn2_bn]
  rfl
/-- the reference behind a procedure's STATEMENT -/
def pbE (b4 b5 : Int32) (K : Int32 → Wd → Option (Option α × Wd)) (w11 : Wd) : Option (Option α × Wd) := lt (si w11 0 29 b5) fun w12 => lt (si w12 0 30 b4) fun w13 => lt (si w13 0 8 ((gi w13 0 8) - 1)) fun w14 => K 0 w14
def pbM (rc : TX12_block) (b4 b5 : Int32) (K : Int32 → Wd → Option (Option α × Wd)) (w4 : Wd) : Option (Option α × Wd) := if inb (gi w4 0 30) 1200 = true then lt (si w4 38 (Int32.toNatClampNeg (gi w4 0 30)) (gi w4 0 29)) fun w6 => be (rc 4 0 0 0 w6) fun x7 w8 => if inb (gi w6 0 30) 1200 = true then lt (si w8 33 (Int32.toNatClampNeg (gi w6 0 30)) x7) (pbE b4 b5 K) else none else none
theorem m_487e {rc : TX12_block} {n e : Nat} {b4 b5 : Int32} {w : Wd} {K : Int32 → Wd → Option (Option α × Wd)} (he : e ≤ 9000) : be (oX12_procedure_487 rc (n + 1) b4 b5 (Int32.ofNat e) (Int32.ofNat e) w) K = bn2 (fX12_newScope (gi w 0 29) (-1) w) fun x w3 => lt (si w3 0 29 x) (pbM rc b4 b5 K) := by
  show be (fX12_procedure_487 rc (oX12_procedure_487 rc n) b4 b5 (Int32.ofNat e) (Int32.ofNat e) w) K = _
  unfold fX12_procedure_487
  rw [if_pos (ofle (Nat.le_refl _) (by omega)), be_bn2]
  refine bn2_cg fun x w3 => ?_
  rw [ltq, ltq]
  show _ = pbM rc b4 b5 K (si w3 0 29 x)
  unfold pbM
  by_cases q : inb (gi (si w3 0 29 x) 0 30) 1200 = true
  · rw [if_pos q, if_pos q, ltq, be_be]
    refine be_cg fun x7 w8 => ?_
    by_cases q2 : inb (gi (si (si w3 0 29 x) 38 (Int32.toNatClampNeg (gi (si w3 0 29 x) 0 30)) (gi (si w3 0 29 x) 0 29)) 0 30) 1200 = true
    · rw [if_pos q2, if_pos q2]
      rfl
    · rw [if_neg q2, if_neg q2]
      rfl
  · rw [if_neg q, if_neg q]
    rfl
/-- a procedure's DECL, but for its STATEMENT -/
def PRX (kd : Nat → Nat) (C : Nat → Nat) (s : Nat) (stk : List Nat) (p l ty tok sb nf W0 : Nat) (fA fM : Wd) : Prop :=
  gi fM 22 (C 1) = Int32.ofNat tok ∧ gi fM 19 (C 1) = 3 ∧ gi fM 20 (C 1) = Int32.ofNat ty ∧ gi fM 24 (C 1) = Int32.ofNat (C 4) ∧ gi fM 29 (C 4) = Int32.ofNat (C 1) ∧ gi fM 30 (C 4) = Int32.ofNat (l + 1) ∧ gi fM 37 (C 4) = Int32.ofNat p ∧ gi fM 31 (C 4) = Int32.ofNat nf ∧ gi fM 32 (C 4) = Int32.ofNat (C 1 + 1) ∧ gi fA 24 (C 1 + 1) = Int32.ofNat sb ∧ gi fA 18 (C 1 + 1) = Int32.ofNat W0 ∧
  (∀ i, i < nf → gi fM 19 (C 1 + 1 + i) = 6 ∧ gi fM 26 (C 1 + 1 + i) = Int32.ofNat (1 + 2 * i) ∧ ∃ tk, tk < sb ∧ gi fM 22 (C 1 + 1 + i) = Int32.ofNat tk) ∧ SLI (C 1) nf W0 fA fM ∧
  gi fM 14 (C 2) = hdM (s :: stk) ∧ gi fM 17 (C 2) = -1 ∧ gi fM 14 (C 2 + 1) = Int32.ofNat (C 2) ∧ gi fM 17 (C 2 + 1) = -1 ∧ gi fM 15 (C 2) = Int32.ofNat (C 4) ∧ gi fM 15 (C 2 + 1) = Int32.ofNat (C 4) ∧ DC1 fA fM (C 1) s p ∧ DCN fA fM (C 1 + 1) nf (C 2) (C 4) ∧ GE35 fM (C 4) (1 + 2 * nf)
theorem PRX.agr {s p l ty tok sb nf W0 : Nat} {uA uM : Wd} (h : PRX kd C s stk p l ty tok sb nf W0 wA wM) (hA : ∀ k j, (k = 18 ∨ k = 24 ∨ k = 29) → j ≤ C 1 + 1 + nf → gi uA k j = gi wA k j) (hM : ∀ k j, 19 ≤ k → k ≤ 28 → j < C 1 + 1 + nf → gi uM k j = gi wM k j) (hP : ∀ k, (29 ≤ k ∧ k ≤ 32 ∨ k = 37) → gi uM k (C 4) = gi wM k (C 4)) (hC : ∀ k j, (k = 14 ∨ k = 15 ∨ k = 17) → j < C 2 + 2 → gi uM k j = gi wM k j) (hE : EXF wM uM) : PRX kd C s stk p l ty tok sb nf W0 uA uM := by
  obtain ⟨a1, a2, a3, a4, a5, a6, a7, a8, a9, a10, a11, a12, ⟨f, f1, f2, f3⟩, a13, a14, a15, a16, a17, a18, a19, a20, a21⟩ := h
  unfold PRX
  rw [hM 22 _ (by omega) (by omega) (by omega), hM 19 _ (by omega) (by omega) (by omega), hM 20 _ (by omega) (by omega) (by omega), hM 24 _ (by omega) (by omega) (by omega), hP 29 (by omega), hP 30 (by omega), hP 37 (by omega), hP 31 (by omega), hP 32 (by omega), hA 24 _ (by omega) (by omega), hA 18 _ (by omega) (by omega), hC 14 _ (by omega) (by omega), hC 17 _ (by omega) (by omega), hC 14 (C 2 + 1) (by omega) (by omega), hC 17 (C 2 + 1) (by omega) (by omega), hC 15 _ (by omega) (by omega), hC 15 (C 2 + 1) (by omega) (by omega)]
  refine ⟨a1, a2, a3, a4, a5, a6, a7, a8, a9, a10, a11, fun i hi => ?_, ⟨f, f1, f2, fun j hj => ?_⟩, a13, a14, a15, a16, a17, a18, a19.ext (hM 23 _ (by omega) (by omega) (by omega)) (hA 29 _ (by omega) (by omega)) hE, fun i hi => (a20 i hi).ext (hM 23 _ (by omega) (by omega) (by omega)) (hA 29 _ (by omega) (by omega)) hE, a21.ext hE⟩
  · rw [hM 19 _ (by omega) (by omega) (by omega), hM 26 _ (by omega) (by omega) (by omega), hM 22 _ (by omega) (by omega) (by omega)]
    exact a12 i hi
  · obtain ⟨w, w1, w2, w3, w4⟩ := f3 j hj
    exact ⟨w, w1, w2, by rw [hA 18 _ (by omega) (by omega)]; exact w3, by rw [hM 28 _ (by omega) (by omega) (by omega), hM 24 _ (by omega) (by omega) (by omega)]; exact w4⟩
end JT
