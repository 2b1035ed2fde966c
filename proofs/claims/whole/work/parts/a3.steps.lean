/-! BOTH SIDES, step by step -/
def upC (C : Nat → Nat) (i v : Nat) : Nat → Nat := fun j => if j = i then v else C j
theorem upC_s {C : Nat → Nat} {i v : Nat} : upC C i v i = v := if_pos rfl
theorem upC_n {C : Nat → Nat} {i v j : Nat} (h : j ≠ i) : upC C i v j = C j := if_neg h
section JT
variable {kd wr nm : Nat → Nat} {vv : Nat → Int64} {m z : Nat} {gA gM : Wd}
theorem TOKS.up (h : TOKS kd wr nm vv m z gA gM) : ∀ n t, t + n ≤ m → wr t ≤ wr (t + n) := by
  intro n
  induction n with
  | zero => intro t _; exact Nat.le_refl _
  | succ n ih =>
    intro t ht
    have h1 := ih t (by omega)
    have h2 := h.2.2.2.2.2.2.1 (t + n) (by omega)
    show wr t ≤ wr (t + n + 1)
    omega
theorem TOKS.mono (h : TOKS kd wr nm vv m z gA gM) {t t' : Nat} (ht : t ≤ t') (hm : t' ≤ m) : wr t ≤ wr t' := by
  have := h.up (t' - t) t (by omega)
  rw [show t + (t' - t) = t' by omega] at this
  exact this
/-- what TOKENS, EXPRS, code and nodes change -/
def PXA (k j : Nat) : Prop := (k = 4 ∧ (j = 9 ∨ j = 10)) ∨ (8 ≤ k ∧ k ≤ 10) ∨ (40 ≤ k ∧ k ≤ 47)
def PXM (k j : Nat) : Prop := (k = 0 ∧ (j = 7 ∨ j = 8 ∨ j = 9 ∨ j = 23)) ∨ (7 ≤ k ∧ k ≤ 13) ∨ k = 44 ∨ k = 45
theorem PRE.xa : ∀ k j, PRE k j → PXA k j := fun k j h => by unfold PRE at h; unfold PXA; omega
theorem PE1.xa {t : Nat} : ∀ k j, PE1 t k j → PXA k j := fun k j h => by unfold PE1 at h; unfold PXA; omega
theorem PXN.xm {n : Nat} : ∀ k j, PXN n k j → PXM k j := fun k j h => by unfold PXN at h; unfold PXM; omega
theorem SYM.agr {C C' TK : Nat → Nat} {uA uM wA wM : Wd} {i : Nat} (h : SYM kd m C TK wA wM i) (hC : LEC C C') (hA : ∀ k, (14 ≤ k ∧ k ≤ 21) → gi uA k (i + 1) = gi wA k (i + 1)) (hB : gi uA 25 (TK i) = gi wA 25 (TK i)) (hM : ∀ k, 18 ≤ k ∧ k ≤ 28 → gi uM k i = gi wM k i) (hP : ∀ p, p < C 4 → gi uM 30 p = gi wM 30 p) (hQ : ∀ p, p < C 4 → gi wM 29 p = Int32.ofNat i → gi uM 29 p = gi wM 29 p ∧ gi uM 31 p = gi wM 31 p ∧ gi uM 32 p = gi wM 32 p) : SYM kd m C' TK uA uM i := by
  obtain ⟨a1, a2, a3, a4, a5, a6, a7, ⟨p, l, b1, b2, b3, b4⟩, c⟩ := h
  have h1 := hC 1
  have h4 := hC 4
  have h5 := hC 5
  unfold SYM
  rw [hA 21 (by omega), hM 22 (by omega), hB, hA 15 (by omega), hM 20 (by omega), hM 23 (by omega), hA 17 (by omega), hM 19 (by omega), hA 14 (by omega), hM 27 (by omega), hA 16 (by omega), hA 18 (by omega), hM 26 (by omega), hA 19 (by omega), hM 24 (by omega), hA 20 (by omega), hM 28 (by omega)]
  refine ⟨a1, a2, a3, a4, a5, a6, a7, ⟨p, l, b1, by omega, b3, (hP p b2).trans b4⟩, ?_⟩
  rcases c with ⟨c1, c2, c3, c4⟩ | ⟨c1, c2, c3, c4, c5⟩ | ⟨c1, c2, c3, p', nf, ff, d1, d2, d3, d4, d5, d6, d7, d8, d9, d10⟩ | c | c | c
  · refine Or.inl ⟨c1, c2, c3, ?_⟩
    rcases c4 with c4 | ⟨e1, e2, o, e3, e4⟩
    · exact Or.inl c4
    · exact Or.inr ⟨e1, e2, o, by omega, e4⟩
  · exact Or.inr (Or.inl ⟨c1, c2, c3, c4, c5⟩)
  · obtain ⟨q1, q2, q3⟩ := hQ p' d2 d4
    exact Or.inr (Or.inr (Or.inl ⟨c1, c2, c3, p', nf, ff, d1, by omega, d3, q1.trans d4, q2.trans d5, q3.trans d6, d7, d8, d9, by omega⟩))
  · exact Or.inr (Or.inr (Or.inr (Or.inl c)))
  · exact Or.inr (Or.inr (Or.inr (Or.inr (Or.inl c))))
  · exact Or.inr (Or.inr (Or.inr (Or.inr (Or.inr c))))
theorem NST.agr {C C' : Nat → Nat} {uA uM wA wM : Wd} (hC : LEC C C') : ∀ {prs : PRL}, NST C wA wM prs → (∀ l, l < prs.length → gi uA 36 l = gi wA 36 l ∧ gi uA 38 l = gi wA 38 l) → (∀ p, p < C 4 → gi uM 35 p = gi wM 35 p ∧ gi uM 34 p = gi wM 34 p ∧ gi uM 30 p = gi wM 30 p ∧ gi uM 37 p = gi wM 37 p) → NST C' uA uM prs := by
  intro prs
  induction prs with
  | nil => exact fun _ _ _ => trivial
  | cons x r ih =>
    obtain ⟨p, sg, q⟩ := x
    intro h hA hM
    obtain ⟨a1, a2, ⟨n, a3, a4, a5⟩, a6, a7, a8, a9, a10, a11, a12⟩ := h
    have hl := hA r.length (by simp)
    have hp := hM p a7
    have h1 := hC 1
    have h4 := hC 4
    exact ⟨hl.1.trans a1, hp.1.trans a2, ⟨n, hl.2.trans a3, hp.2.1.trans a4, by omega⟩, hp.2.2.1.trans a6, by omega, hp.2.2.2.trans a8, a9, by have := hC 3; have := hC 0; omega, by have := hC 3; omega, ih a12 (fun l hl => hA l (by simp; omega)) hM⟩
/-- TOKENS go on, nodes are made, code is put: all else stays -/
theorem JL.mv {sl sl' us : Nat} {stk : List Nat} {prs : PRL} {C TK : Nat → Nat} {SL : Nat → List Nat} {t t' d d' n : Nat} {wA wM uA uM : Wd} (hT : TOKS kd wr nm vv m z gA gM) (h : JL kd wr nm vv m z gA gM sl us stk prs C TK SL t d wA wM) (hA : OFF PXA uA wA) (hM : OFF PXM uM wM) (hin : IN1 kd wr z uA t' 0 (-1)) (hs : SM kd wr m uM t' d') (hn : gi uM 0 23 = Int32.ofNat n) (hb : n ≤ 2 * t' + 100) (hn0 : C 0 ≤ n) (ht : t ≤ t') (hsl : 2 * C 1 ≤ wr t' + sl') : JL kd wr nm vv m z gA gM sl' us stk prs (upC C 0 n) TK SL t' d' uA uM := by
  obtain ⟨i1, i2, i3, i4, i5, ⟨b0, b1, b2, b3, b4, b5, b6, b7⟩, i7, ⟨r1, r2, r3, r4, r5⟩, i9, ⟨c1, c2, c3, c4, c5, c6, c7⟩, i11, ⟨l, l1, l2, l3, p, sg, q, r, l4, l5⟩, i13, i14, i15⟩ := h
  have hm := hs.2.1
  have hw := hT.mono ht hm
  have e : ∀ {i}, i ≠ 0 → upC C 0 n i = C i := fun hi => upC_n hi
  have hC : LEC C (upC C 0 n) := fun i => by
    by_cases q : i = 0
    · rw [q, upC_s]; exact hn0
    · rw [e q]; exact Nat.le_refl _
  have fA : ∀ k j, ¬ PXA k j → gi uA k j = gi wA k j := fun k j hk => (hA k j hk).1
  have fM : ∀ k j, ¬ PXM k j → gi uM k j = gi wM k j := fun k j hk => (hM k j hk).1
  refine ⟨hin, hs, OFF.tr (hA.mono (fun k j hp => by unfold PXA at hp; unfold PAA; omega)) i3, OFF.tr (hM.mono (fun k j hp => by unfold PXM at hp; unfold PMM; omega)) i4, ?_, ?_, ?_, ?_, ?_, ?_, ?_, ⟨l, l1, ?_, l3, p, sg, q, r, l4, ?_⟩, ?_, ?_, ?_⟩
  · have e1 : FLA uA = FLA wA := by
      unfold FLA
      rw [fA 3 6 (by unfold PXA; omega), fA 3 7 (by unfold PXA; omega)]
    have e2 : FLM uM = FLM wM := by
      unfold FLM
      rw [fM 0 10 (by unfold PXM; omega), fM 0 11 (by unfold PXM; omega)]
    rw [e1, e2]
    exact i5.le ht
  · rw [upC_s, e (by omega), e (by omega), e (by omega), e (by omega), e (by omega)]
    exact ⟨hb, hsl, by omega, by omega, by omega, b5, b6, b7⟩
  · rw [e (by omega), e (by omega)]
    exact i7.agr (fun k j hk => fA k j (by unfold PSC at hk; unfold PXA; omega))
  · unfold RSC
    rw [e (by omega), e (by omega), fM 0 28 (by unfold PXM; omega), fM 0 42 (by unfold PXM; omega)]
    refine ⟨r1, r2, ?_, fun s hs => ?_, fun i hi => by rw [(hM 18 i (by unfold PXM; omega)).2]; exact r5 i hi⟩
    · have hu : ∀ st : List Nat, UPM (C 2) wM st → UPM (C 2) uM st := by
        intro st
        induction st with
        | nil => exact fun _ => trivial
        | cons s st ih => exact fun h => ⟨by rw [fM 14 s (by unfold PXM; omega)]; exact h.1, h.2.1, ih h.2.2⟩
      exact hu stk r3
    · rw [fM 16 s (by unfold PXM; omega)]
      exact (r4 s hs).agr (fun i _ => fM 21 i (by unfold PXM; omega))
  · rw [fM 0 29 (by unfold PXM; omega)]; exact i9
  · rw [upC_s, e (by omega), e (by omega), e (by omega), e (by omega), e (by omega), fM 0 59 (by unfold PXM; omega), fM 0 53 (by unfold PXM; omega), fA 13 14 (by unfold PXA; omega), fM 0 54 (by unfold PXM; omega), fA 13 13 (by unfold PXA; omega), fA 13 12 (by unfold PXA; omega)]
    exact ⟨hn, c2, c3, c4, c5, c6, c7⟩
  · exact fun i hi => (i11 i hi).agr hC (fun k hk => fA k _ (by unfold PXA; omega)) (fA 25 _ (by unfold PXA; omega)) (fun k hk => fM k _ (by unfold PXM; omega)) (fun p _ => fM 30 p (by unfold PXM; omega)) (fun p _ _ => ⟨fM 29 p (by unfold PXM; omega), fM 31 p (by unfold PXM; omega), fM 32 p (by unfold PXM; omega)⟩)
  · rw [fA 34 5 (by unfold PXA; omega)]; exact l2
  · rw [fM 0 30 (by unfold PXM; omega)]; exact l5
  · exact i13.agr hC (fun l _ => ⟨fA 36 l (by unfold PXA; omega), fA 38 l (by unfold PXA; omega)⟩) (fun p _ => ⟨fM 35 p (by unfold PXM; omega), fM 34 p (by unfold PXM; omega), fM 30 p (by unfold PXM; omega), fM 37 p (by unfold PXM; omega)⟩)
  · intro j hj hz
    rw [fA 25 j (by unfold PXA; omega)]
    exact i14 j (by omega) hz
  · exact i15.agr b6 (e (by omega)) (e (by omega)) hw (fun k' i' hk' => fM k' i' (by unfold PXM; omega)) (fun x hx => by rw [fM 0 10 (by unfold PXM; omega), fM 0 11 (by unfold PXM; omega)]; exact hx)
theorem JL.in1 {sl us : Nat} {stk : List Nat} {prs : PRL} {C TK : Nat → Nat} {SL : Nat → List Nat} {t d : Nat} {wA wM : Wd} (h : JL kd wr nm vv m z gA gM sl us stk prs C TK SL t d wA wM) : IN1 kd wr z wA t 0 (-1) := h.1
theorem JL.sm {sl us : Nat} {stk : List Nat} {prs : PRL} {C TK : Nat → Nat} {SL : Nat → List Nat} {t d : Nat} {wA wM : Wd} (h : JL kd wr nm vv m z gA gM sl us stk prs C TK SL t d wA wM) : SM kd wr m wM t d := h.2.1
/-- live, or the class alone and dead -/
def STJ (kd wr nm : Nat → Nat) (vv : Nat → Int64) (m z : Nat) (gA gM : Wd) (lv : Bool) (sl us : Nat) (stk : List Nat) (prs : PRL) (C TK : Nat → Nat) (SL : Nat → List Nat) (t d b : Nat) (fa : Int32) (wA wM : Wd) : Prop :=
  (lv = true ∧ fa = -1 ∧ JL kd wr nm vv m z gA gM sl us stk prs C TK SL t d wA wM) ∨ (lv = false ∧ t = z - 1 ∧ DI kd wr nm z gA stk fa b wA)
/-- how the two end -/
def GLJ (kd wr nm : Nat → Nat) (z : Nat) (gA gM : Wd) {γ α : Type} (wd : γ → Wd) (lv : Bool) (stk : List Nat) (fa : Int32) (b : Nat) (rA : Option γ) (rM : Option (Option α × Wd)) (S : γ → α → Wd → Prop) : Prop :=
  (lv = false → ∃ g, rA = some g ∧ DI kd wr nm z gA stk fa b (wd g)) ∧
  (lv = true → (∃ p g v, rA = some g ∧ DI kd wr nm z gA stk (Int32.ofNat (wr p)) b (wd g) ∧ rM = some (none, v) ∧ gi v 0 9 = Int32.ofNat (wr p) ∧ OFF PMM v gM) ∨ ∃ g y v, rA = some g ∧ rM = some (some y, v) ∧ S g y v)
end JT
