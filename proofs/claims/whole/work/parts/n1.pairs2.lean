/-! BOTH SIDES' CODES: choices, LABELS -/
section NB1
variable {E : SENV} {Lim k p K x y tk a a' a1 b b' b1 q q' q3 sg sg' m1 m1' s0 m2 m2' Z n kp j i0 : Nat} {stk : List Nat} {w : Int32} {PA PA1 PA2 : Nat → Nat → Nat → Wd → Prop} {PM PM1 PM2 : Nat → Nat → Nat → Nat → Wd → Prop}
/-- more is free than is wanted -/
theorem SIT.mono (h : SIT E Lim stk p sg' m1' s0 m2' a a' b b') (h1 : sg ≤ sg') (h2 : m1 ≤ m1') (h3 : m2 ≤ m2') : SIT E Lim stk p sg m1 s0 m2 a a' b b' := by
  intro K A sc x i wA wM hA hon hl hr hp hT hF
  exact h K A sc x i wA wM hA hon hl hr hp hT (fun k x q ty va vm g => by
    obtain ⟨f1, f2⟩ := hF _ _ _ _ _ _ g
    exact ⟨fun hk => by have := f1 hk; omega, fun hk h9 => by have := f2 hk h9; omega⟩)
theorem sp_none : SIT E Lim stk p sg m1 s0 m2 a a b b := SIT.no
/-- what's told of a STATEMENT by its codes: s0: slots before those of fors; m1: slots that are taken -/
def SPQ (E : SENV) (Lim : Nat) (stk : List Nat) (p sg m1 s0 : Nat) (PA : Nat → Nat → Nat → Wd → Prop) (PM : Nat → Nat → Nat → Nat → Wd → Prop) : Prop := ∀ a a' Z b q b' q', PA a a' Z (cA E) → PM b q b' q' (dM E) → Z ≤ eNo E 1 p → q' ≤ eNo E 3 p → a' < eNo E 5 0 → b' < 60000 → s0 ≤ q → (a ≤ a' ∧ b ≤ b' ∧ q ≤ q') ∧ SIT E Lim stk p sg m1 s0 q a a' b b'
theorem sp_if1 (h : SOK E Lim) (hk : SCE E stk) (hs : SPQ E Lim stk p sg m1 s0 PA PM) (hA : PI1c (fun b b' g => FLX (vM E) (eLU E stk) p K 0 x 0 = [] → CDC (vM E) (vA E) (eLU E stk) (eLV E p) K 0 x 0 b b' g) PA a a' Z (cA E)) (hM : PI1 (vM E) (eLU E stk) p (eLV E p) K x PM b q b' q' (dM E)) (hF : mbL (vM E) (eLU E stk) p K x 2 = []) (hO : OKN (vM E) K 0 x) (hn : NDX (vM E) K 0 x ≤ 502) (hZ : Z ≤ eNo E 1 p) (hq : q' ≤ eNo E 3 p) (ha : a' < eNo E 5 0) (hb : b' < 60000) (h0 : s0 ≤ q) : (a ≤ a' ∧ b ≤ b' ∧ q ≤ q') ∧ SIT E Lim stk p sg m1 s0 q a a' b b' := by
  obtain ⟨w0, a1, hc, w1, hA'⟩ := hA
  obtain ⟨b1, o0, hm, o1, hM'⟩ := hM
  obtain ⟨f1, f2⟩ := app_nil (show FLX (vM E) (eLU E stk) p K 0 x 0 ++ misT (TYX (vM E) (eLU E stk) K x) 2 (nd (vM E) 12 x) = [] from hF)
  obtain ⟨⟨g1, g2, g3⟩, hS⟩ := hs _ _ _ _ _ _ _ hA' hM' hZ hq ha hb h0
  obtain ⟨⟨l1, l2⟩, hv⟩ := sp_val (p := p) h hk (hc f1) (hm f1) f1 hO (by omega) (by omega)
  rw [TYX_is h.2.1 hk (hm f1) hO f1 f2] at hv
  exact ⟨⟨by omega, by omega, g3⟩, SIT.if2 h.1 hv hS w0 o0 ⟨l1, g1, ha⟩ ⟨by omega, by omega, by omega⟩ hn w1 o1⟩
theorem sp_if2 (h : SOK E Lim) (hk : SCE E stk) (hs1 : SPQ E Lim stk p sg m1 s0 PA1 PM1) (hs2 : SPQ E Lim stk p sg m1' s0 PA2 PM2) (hmm : m1 ≤ m1') (hA : PI2c (fun b b' g => FLX (vM E) (eLU E stk) p K 0 x 0 = [] → CDC (vM E) (vA E) (eLU E stk) (eLV E p) K 0 x 0 b b' g) PA1 PA2 a a' Z (cA E)) (hM : PI2 (vM E) (eLU E stk) p (eLV E p) K x PM1 PM2 b q b' q' (dM E)) (hF : mbL (vM E) (eLU E stk) p K x 2 = []) (hO : OKN (vM E) K 0 x) (hn : NDX (vM E) K 0 x ≤ 502) (hZ : Z ≤ eNo E 1 p) (hq : q' ≤ eNo E 3 p) (ha : a' < eNo E 5 0) (hb : b' < 60000) (h0 : s0 ≤ q) (hqq : ∀ b q b' q', PM1 b q b' q' (dM E) → q ≤ q') (hle2 : ∀ a a' Z, PA2 a a' Z (cA E) → a ≤ a') (hleM : ∀ b q b' q', PM2 b q b' q' (dM E) → b ≤ b' ∧ q ≤ q') : (a ≤ a' ∧ b ≤ b' ∧ q ≤ q') ∧ SIT E Lim stk p sg m1 s0 q a a' b b' := by
  obtain ⟨w0, a1, hc, a2, w1, hA1, w2, hA2⟩ := hA
  obtain ⟨b1, b2, q3, o0, hm, o1, hM1, o2, hM2⟩ := hM
  obtain ⟨f1, f2⟩ := app_nil (show FLX (vM E) (eLU E stk) p K 0 x 0 ++ misT (TYX (vM E) (eLU E stk) K x) 2 (nd (vM E) 12 x) = [] from hF)
  have u1 := hle2 _ _ _ hA2
  have u2 := hleM _ _ _ _ hM2
  have u3 := hqq _ _ _ _ hM1
  obtain ⟨⟨g1, g2, g3⟩, hS1⟩ := hs1 _ _ _ _ _ _ _ hA1 hM1 hZ (by omega) (by omega) (by omega) h0
  obtain ⟨⟨g4, g5, g6⟩, hS2⟩ := hs2 _ _ _ _ _ _ _ hA2 hM2 hZ hq ha hb (by omega)
  obtain ⟨⟨l1, l2⟩, hv⟩ := sp_val (p := p) h hk (hc f1) (hm f1) f1 hO (by omega) (by omega)
  rw [TYX_is h.2.1 hk (hm f1) hO f1 f2] at hv
  exact ⟨⟨by omega, by omega, by omega⟩, SIT.if3 h.1 hv hS1 (hS2.mono (Nat.le_refl _) hmm u3) w0 o0 ⟨l1, g1, g4, ha⟩ ⟨by omega, by omega, by omega, by omega⟩ hn w1 w2 o1 o2⟩
/-- LABELS before a STATEMENT: from any of them -/
theorem sp_labs (h : SOK E Lim) (hB : ∀ s, s < eNo E 5 6 → gi (vM E) 17 s = -1 ∨ ∃ bk, gi (vM E) 17 s = Int32.ofNat bk ∧ bk < 9000) (hS : SIT E Lim stk p sg m1 s0 m2 (a + j) a' b b') (hw : ∀ i, i < j → gl (cA E) 41 (a + i) = wdC 32 0 (Int32.ofNat (kpO E p stk))) (ha : a + j ≤ a' ∧ a' < eNo E 5 0) : ∀ i, i ≤ j → SIT E Lim stk p sg m1 s0 m2 (a + (j - i)) a' b b' := by
  intro i
  induction i with
  | zero => exact fun _ => hS
  | succ i ih =>
    intro hi
    have := ih (by omega)
    refine SIT.lab h.1 hB (a := a + (j - (i + 1))) ?_ (hw _ (by omega)) ⟨by omega, by omega⟩
    rw [show a + (j - (i + 1)) + 1 = a + (j - i) by omega]; exact this
end NB1
