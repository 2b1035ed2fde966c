/-! BOTH SIDES: what's older stays, told beside -/
section JT
variable {kd wr nm : Nat → Nat} {vv : Nat → Int64} {m z : Nat} {gA gM : Wd} {lv : Bool} {sl us B : Nat} {stk obl stkF : List Nat} {prs : PRL} {C TK : Nat → Nat} {SL : Nat → List Nat} {t d b : Nat} {fa : Int32} {wA wM : Wd} {γ α : Type} {wd : γ → Wd} {S : γ → α → Wd → Prop} {P : (Nat → Nat) → Nat → Wd → Wd → Prop}
/-- all that's older is as it was -/
def OLD (C : Nat → Nat) (t : Nat) (stk : List Nat) (prs : PRL) (wA wM uA uM : Wd) : Prop := EXTA C t stk [] wA uA ∧ EXTL 0 C stk prs [] (C 0) wM uM
theorem SPC.go {rA : Wd → Option (Int32 × Wd)} {rM : Wd → Option (Option Int32 × Wd)} {ne : Bool} {pre : CV → Nat → Prop} {β : Nat} {W : Wd → Wd → Nat → Nat → Nat → List Nat → PRL → Nat → Nat → CV → CV → Prop} (h : SPC kd wr nm vv m z gA gM rA rM ne pre d β W) {p sg q : Nat} {r : PRL} {KA : Int32 → Wd → Option γ} {KM : Int32 → Wd → Option (Option α × Wd)}
    (hne : ne = true → stk ≠ []) (hS : STBJ stk ((p, sg, q) :: r) obl P) (hst : STJ kd wr nm vv m z gA gM lv 0 (C 1) stk ((p, sg, q) :: r) C TK SL t d b fa wA wM) (hP : lv = true → P C t wA wM) (hpre : lv = true → pre C t ∧ C 0 ≤ 2 * t + 98 ∧ (d ≤ 40 ∨ kd t = 5) ∧ OBK d r C obl) (hb : 2800 ≤ b) (hB : b + β ≤ 3900)
    (H : ∀ lv' x t' fa' uA uM n C' TK' SL' q', STJ kd wr nm vv m z gA gM lv' 0 (C' 1) stk ((p, sg, q') :: r) C' TK' SL' t' d (b + β) fa' uA uM → (lv' = true → OLD C t stk ((p, sg, q) :: r) wA wM uA uM ∧ lv = true ∧ t ≤ t' ∧ t' ≤ m ∧ LEC C C' ∧ C' 0 + 2 * t ≤ C 0 + 2 * t' + 1 ∧ C' 6 + C 4 = C' 4 + C 6 ∧ P C' t' uA uM ∧ gi uM 11 n = -1 ∧ n < C' 0 ∧ C 0 ≤ n ∧ FACT stk ((p, sg, q') :: r) obl (C 0) C' t' n (fun fA fM => W fA fM t t' n stk ((p, sg, q) :: r) q q' C C') uA uM) → (lv' = false → t' = z - 1) → GLJ kd wr nm z gA gM wd lv' stkF fa' B (KA x uA) (KM (Int32.ofNat n) uM) S) :
    GLJ kd wr nm z gA gM wd lv stkF fa B (bn2 (rA wA) KA) (be (rM wM) KM) S := by
  cases lv
  · refine h γ α wd S stkF B false stk obl p sg q r C TK SL t b fa wA wM P KA KM hne hS hst hP hpre hb hB (fun lv' x t' fa' uA uM n C' TK' SL' q' h1 h2 h3 => H lv' x t' fa' uA uM n C' TK' SL' q' h1 (fun hl => ?_) h3)
    exact absurd (h2 hl).1 (by decide)
  · have G1 := (h (Int32 × Wd) Int32 Prod.snd (fun g y v => OLD C t stk ((p, sg, q) :: r) wA wM g.2 v) stk (b + β) true stk [] p sg q r C TK SL t b fa wA wM (PF C t stk ((p, sg, q) :: r) [] wA wM) (fun x u => some (x, u)) (fun y v => some (some y, v)) hne (PF.stb (fun _ h _ => h) (fun y hy _ => ⟨y, hy, rfl⟩) (fun _ h _ => h)) hst (fun _ => STEP.rf) (fun hl => ⟨(hpre hl).1, (hpre hl).2.1, (hpre hl).2.2.1, (hpre hl).2.2.2.1, fun x hx => absurd hx (by simp)⟩) hb hB (fun lv' x t' fa' uA uM n C' TK' SL' q' h1 h2 h3 => by
      refine ⟨fun hl => ⟨(x, uA), rfl, ?_⟩, fun hl => Or.inr ⟨(x, uA), Int32.ofNat n, uM, rfl, rfl, ?_⟩⟩
      · rcases h1 with ⟨g1, _⟩ | ⟨_, _, g3⟩
        · rw [hl] at g1; exact absurd g1 (by decide)
        · exact g3
      · obtain ⟨g1, g2, g3, g4, g5, g6, g7, g8⟩ := h2 hl
        exact ⟨g7.2.2.1, g7.2.2.2.1⟩)).2 rfl
    have G2 := (h (Int32 × Wd) Int32 Prod.snd (fun g y v => ∃ t' fa' n C' TK' SL' q', y = Int32.ofNat n ∧ STJ kd wr nm vv m z gA gM true 0 (C' 1) stk ((p, sg, q') :: r) C' TK' SL' t' d (b + β) fa' g.2 v ∧ t ≤ t' ∧ t' ≤ m ∧ LEC C C' ∧ C' 0 + 2 * t ≤ C 0 + 2 * t' + 1 ∧ C' 6 + C 4 = C' 4 + C 6 ∧ P C' t' g.2 v ∧ gi v 11 n = -1 ∧ n < C' 0 ∧ C 0 ≤ n ∧ FACT stk ((p, sg, q') :: r) obl (C 0) C' t' n (fun fA fM => W fA fM t t' n stk ((p, sg, q) :: r) q q' C C') g.2 v) stk (b + β) true stk obl p sg q r C TK SL t b fa wA wM P (fun x u => some (x, u)) (fun y v => some (some y, v)) hne hS hst hP hpre hb hB (fun lv' x t' fa' uA uM n C' TK' SL' q' h1 h2 h3 => by
      refine ⟨fun hl => ⟨(x, uA), rfl, ?_⟩, fun hl => Or.inr ⟨(x, uA), Int32.ofNat n, uM, rfl, rfl, ?_⟩⟩
      · rcases h1 with ⟨g1, _⟩ | ⟨_, _, g3⟩
        · rw [hl] at g1; exact absurd g1 (by decide)
        · exact g3
      · subst hl
        exact ⟨t', fa', n, C', TK', SL', q', rfl, h1, (h2 rfl).2⟩)).2 rfl
    have eA : ∀ g : Int32 × Wd, bn2 (rA wA) (fun x u => some (x, u)) = some g → bn2 (rA wA) KA = KA g.1 g.2 := fun g hg => by
      rcases hr : rA wA with _ | ⟨x, u⟩
      · rw [hr] at hg; exact absurd hg (by intro q; cases q)
      · rw [hr] at hg; cases hg; rfl
    have eM : ∀ y v, be (rM wM) (fun y v => some (some y, v)) = some (some y, v) → be (rM wM) KM = KM y v := fun y v hg => by
      rcases hr : rM wM with _ | ⟨_ | x, u⟩
      · rw [hr] at hg; exact absurd hg (by intro q; cases q)
      · rw [hr] at hg; exact absurd hg (by intro q; cases q)
      · rw [hr] at hg; cases hg; rfl
    have eN : ∀ v, be (rM wM) (fun y v => some (some y, v)) = (some (none, v) : Option (Option Int32 × Wd)) → be (rM wM) KM = some (none, v) := fun v hg => by
      rcases hr : rM wM with _ | ⟨_ | x, u⟩
      · rw [hr] at hg; exact absurd hg (by intro q; cases q)
      · rw [hr] at hg; cases hg; rfl
      · rw [hr] at hg; exact absurd hg (by intro q; cases q)
    refine ⟨fun hl => absurd hl (by decide), fun _ => ?_⟩
    rcases G2 with ⟨p', g, v, a1, a2, a3, a4, a5⟩ | ⟨g, y, v, a1, a2, t', fa', n, C', TK', SL', q', rfl, a4, a5⟩
    · obtain ⟨g', b1, b2⟩ := (H false g.1 (z - 1) (Int32.ofNat (wr p')) g.2 wM 0 C TK SL q (Or.inr ⟨rfl, rfl, a2⟩) (fun h => absurd h (by decide)) (fun _ => rfl)).1 rfl
      exact Or.inl ⟨p', g', v, (eA g a1).trans b1, b2, eN v a3, a4, a5⟩
    · rw [eA g a1, eM _ _ a2]
      rcases G1 with ⟨p', g1, v1, c1, c2, c3, c4, c5⟩ | ⟨g1, y1, v1, c1, c2, c3⟩
      · rw [a2] at c3; exact absurd c3 (by intro q; cases q)
      · rw [a1] at c1; rw [a2] at c2
        cases c1
        cases c2
        exact (H true g.1 t' fa' g.2 v n C' TK' SL' q' a4 (fun _ => ⟨c3, rfl, a5⟩) (fun h => absurd h (by decide))).2 rfl
/-- what both functions of a DECL come to -/
def DSPL (kd wr nm : Nat → Nat) (vv : Nat → Int64) (m z : Nat) (gA gM : Wd) (rA : Wd → Option (Int32 × Wd)) (rM : Int32 → Wd → Option (Option Int32 × Wd)) (pre : Nat → Prop) (d β : Nat) (W : Wd → Wd → PSTT) : Prop :=
  ∀ (γ α : Type) (wd : γ → Wd) (S : γ → α → Wd → Prop) (stkF : List Nat) (B : Nat) (s : Nat) (stk obl : List Nat) (p sg q : Nat) (r : PRL) (C TK : Nat → Nat) (SL : Nat → List Nat) (t b : Nat) (fa : Int32) (wA wM : Wd) (P : (Nat → Nat) → Nat → Wd → Wd → Prop) (KA : Int32 → Wd → Option γ) (KM : Int32 → Wd → Option (Option α × Wd)),
    STBJ (s :: stk) ((p, sg, q) :: r) obl P → STJ kd wr nm vv m z gA gM true 0 (C 1) (s :: stk) ((p, sg, q) :: r) C TK SL t d b fa wA wM → P C t wA wM → pre t → C 0 ≤ 2 * t + 98 → OBK d r C obl → 2800 ≤ b → b + β ≤ 3900 →
    (∀ lv' x t' fa' uA uM C' TK' SL' sg' q' (an : Option Nat), STJ kd wr nm vv m z gA gM lv' 1 (C' 1) (s :: stk) ((p, sg', q') :: r) C' TK' SL' t' d (b + β) fa' uA uM → (lv' = true → t < t' ∧ t' ≤ m ∧ LEC C C' ∧ C' 0 + 2 * t ≤ C 0 + 2 * t' ∧ C' 6 + C 4 = C' 4 + C 6 ∧ sg ≤ sg' ∧ P C' t' uA uM ∧ (∀ x, an = some x → gi uM 11 x = -1 ∧ C 0 ≤ x ∧ x < C' 0) ∧ FACT (s :: stk) ((p, sg', q') :: r) obl (C 0) C' t' (an.getD (C' 0)) (fun fA fM => DCLX kd fA fM (W fA fM) d (s :: stk) (hdM stk) p r t t' sg sg' q q' an C C') uA uM) → (lv' = false → t' = z - 1) → GLJ kd wr nm z gA gM wd lv' stkF fa' B (KA x uA) (KM (match an with | none => -1 | some x => Int32.ofNat x) uM) S) →
    GLJ kd wr nm z gA gM wd true stkF fa B (bn2 (rA wA) KA) (be (rM (hdM stk) wM) KM) S
theorem DSPL.go {rA : Wd → Option (Int32 × Wd)} {rM : Int32 → Wd → Option (Option Int32 × Wd)} {pre : Nat → Prop} {β : Nat} {W : Wd → Wd → PSTT} (h : DSPL kd wr nm vv m z gA gM rA rM pre d β W) {s p sg q : Nat} {r : PRL} {KA : Int32 → Wd → Option γ} {KM : Int32 → Wd → Option (Option α × Wd)}
    (hS : STBJ (s :: stk) ((p, sg, q) :: r) obl P) (hst : STJ kd wr nm vv m z gA gM true 0 (C 1) (s :: stk) ((p, sg, q) :: r) C TK SL t d b fa wA wM) (hP : P C t wA wM) (hpre : pre t) (hc : C 0 ≤ 2 * t + 98) (hob : OBK d r C obl) (hb : 2800 ≤ b) (hB : b + β ≤ 3900)
    (H : ∀ lv' x t' fa' uA uM C' TK' SL' sg' q' (an : Option Nat), STJ kd wr nm vv m z gA gM lv' 1 (C' 1) (s :: stk) ((p, sg', q') :: r) C' TK' SL' t' d (b + β) fa' uA uM → (lv' = true → OLD C t (s :: stk) ((p, sg, q) :: r) wA wM uA uM ∧ t < t' ∧ t' ≤ m ∧ LEC C C' ∧ C' 0 + 2 * t ≤ C 0 + 2 * t' ∧ C' 6 + C 4 = C' 4 + C 6 ∧ sg ≤ sg' ∧ P C' t' uA uM ∧ (∀ x, an = some x → gi uM 11 x = -1 ∧ C 0 ≤ x ∧ x < C' 0) ∧ FACT (s :: stk) ((p, sg', q') :: r) obl (C 0) C' t' (an.getD (C' 0)) (fun fA fM => DCLX kd fA fM (W fA fM) d (s :: stk) (hdM stk) p r t t' sg sg' q q' an C C') uA uM) → (lv' = false → t' = z - 1) → GLJ kd wr nm z gA gM wd lv' stkF fa' B (KA x uA) (KM (match an with | none => -1 | some x => Int32.ofNat x) uM) S) :
    GLJ kd wr nm z gA gM wd true stkF fa B (bn2 (rA wA) KA) (be (rM (hdM stk) wM) KM) S := by
  have G1 := (h (Int32 × Wd) Int32 Prod.snd (fun g y v => OLD C t (s :: stk) ((p, sg, q) :: r) wA wM g.2 v) (s :: stk) (b + β) s stk [] p sg q r C TK SL t b fa wA wM (PF C t (s :: stk) ((p, sg, q) :: r) [] wA wM) (fun x u => some (x, u)) (fun y v => some (some y, v)) (PF.stb (fun _ h _ => h) (fun y hy _ => ⟨y, hy, rfl⟩) (fun _ h _ => h)) hst STEP.rf hpre hc ⟨hob.1, fun x hx => absurd hx (by simp)⟩ hb hB (fun lv' x t' fa' uA uM C' TK' SL' sg' q' an h1 h2 h3 => by
    refine ⟨fun hl => ⟨(x, uA), rfl, ?_⟩, fun hl => Or.inr ⟨(x, uA), _, uM, rfl, rfl, ?_⟩⟩
    · rcases h1 with ⟨g1, _⟩ | ⟨_, _, g3⟩
      · rw [hl] at g1; exact absurd g1 (by decide)
      · exact g3
    · obtain ⟨g1, g2, g3, g4, g5, g6, g7, g8⟩ := h2 hl
      exact ⟨g7.2.2.1, g7.2.2.2.1⟩)).2 rfl
  have G2 := (h (Int32 × Wd) Int32 Prod.snd (fun g y v => ∃ t' fa' C' TK' SL' sg' q' an, y = (match an with | none => -1 | some x => Int32.ofNat x) ∧ STJ kd wr nm vv m z gA gM true 1 (C' 1) (s :: stk) ((p, sg', q') :: r) C' TK' SL' t' d (b + β) fa' g.2 v ∧ t < t' ∧ t' ≤ m ∧ LEC C C' ∧ C' 0 + 2 * t ≤ C 0 + 2 * t' ∧ C' 6 + C 4 = C' 4 + C 6 ∧ sg ≤ sg' ∧ P C' t' g.2 v ∧ (∀ x, an = some x → gi v 11 x = -1 ∧ C 0 ≤ x ∧ x < C' 0) ∧ FACT (s :: stk) ((p, sg', q') :: r) obl (C 0) C' t' (an.getD (C' 0)) (fun fA fM => DCLX kd fA fM (W fA fM) d (s :: stk) (hdM stk) p r t t' sg sg' q q' an C C') g.2 v) (s :: stk) (b + β) s stk obl p sg q r C TK SL t b fa wA wM P (fun x u => some (x, u)) (fun y v => some (some y, v)) hS hst hP hpre hc hob hb hB (fun lv' x t' fa' uA uM C' TK' SL' sg' q' an h1 h2 h3 => by
    refine ⟨fun hl => ⟨(x, uA), rfl, ?_⟩, fun hl => Or.inr ⟨(x, uA), _, uM, rfl, rfl, ?_⟩⟩
    · rcases h1 with ⟨g1, _⟩ | ⟨_, _, g3⟩
      · rw [hl] at g1; exact absurd g1 (by decide)
      · exact g3
    · subst hl
      exact ⟨t', fa', C', TK', SL', sg', q', an, rfl, h1, h2 rfl⟩)).2 rfl
  have eA : ∀ g : Int32 × Wd, bn2 (rA wA) (fun x u => some (x, u)) = some g → bn2 (rA wA) KA = KA g.1 g.2 := fun g hg => by
    rcases hr : rA wA with _ | ⟨x, u⟩
    · rw [hr] at hg; exact absurd hg (by intro q; cases q)
    · rw [hr] at hg; cases hg; rfl
  have eM : ∀ y v, be (rM (hdM stk) wM) (fun y v => some (some y, v)) = some (some y, v) → be (rM (hdM stk) wM) KM = KM y v := fun y v hg => by
    rcases hr : rM (hdM stk) wM with _ | ⟨_ | x, u⟩
    · rw [hr] at hg; exact absurd hg (by intro q; cases q)
    · rw [hr] at hg; exact absurd hg (by intro q; cases q)
    · rw [hr] at hg; cases hg; rfl
  have eN : ∀ v, be (rM (hdM stk) wM) (fun y v => some (some y, v)) = (some (none, v) : Option (Option Int32 × Wd)) → be (rM (hdM stk) wM) KM = some (none, v) := fun v hg => by
    rcases hr : rM (hdM stk) wM with _ | ⟨_ | x, u⟩
    · rw [hr] at hg; exact absurd hg (by intro q; cases q)
    · rw [hr] at hg; cases hg; rfl
    · rw [hr] at hg; exact absurd hg (by intro q; cases q)
  refine ⟨fun hl => absurd hl (by decide), fun _ => ?_⟩
  rcases G2 with ⟨p', g, v, a1, a2, a3, a4, a5⟩ | ⟨g, y, v, a1, a2, t', fa', C', TK', SL', sg', q', an, rfl, a4, a5⟩
  · obtain ⟨g', b1, b2⟩ := (H false g.1 (z - 1) (Int32.ofNat (wr p')) g.2 wM C TK SL sg q none (Or.inr ⟨rfl, rfl, a2⟩) (fun h => absurd h (by decide)) (fun _ => rfl)).1 rfl
    exact Or.inl ⟨p', g', v, (eA g a1).trans b1, b2, eN v a3, a4, a5⟩
  · rw [eA g a1, eM _ _ a2]
    rcases G1 with ⟨p', g1, v1, c1, c2, c3, c4, c5⟩ | ⟨g1, y1, v1, c1, c2, c3⟩
    · rw [a2] at c3; exact absurd c3 (by intro q; cases q)
    · rw [a1] at c1; rw [a2] at c2
      cases c1
      cases c2
      exact (H true g.1 t' fa' g.2 v C' TK' SL' sg' q' an a4 (fun _ => ⟨c3, a5⟩) (fun h => absurd h (by decide))).2 rfl
end JT
