/-! BOTH SIDES: steps that go on alike -/
/-- the same, of nodes from lo on -/
def EXTL (lo : Nat) (C : Nat → Nat) (stk : List Nat) (prs : PRL) (obl : List Nat) (pd : Nat) (w u : Wd) : Prop := ∀ k j, (((7 ≤ k ∧ k ≤ 10 ∨ k = 12 ∨ k = 13 ∨ k = 44 ∨ k = 45) ∧ lo ≤ j ∧ j < C 0) ∨ (k = 11 ∧ lo ≤ j ∧ j < C 0 ∧ j ≠ pd) ∨ ((k = 14 ∨ k = 15 ∨ k = 17) ∧ j < C 2) ∨ (k = 16 ∧ j < C 2 ∧ j ∉ stk) ∨ (18 ≤ k ∧ k ≤ 28 ∧ j < C 1) ∨ ((29 ≤ k ∧ k ≤ 33 ∨ 35 ≤ k ∧ k ≤ 38) ∧ j < C 4 ∧ ((k = 33 ∨ k = 35 ∨ k = 38) → ∀ p ∈ prs, p.1 ≠ j)) ∨ ((k = 39 ∨ k = 40) ∧ j < C 3 ∧ j ∉ obl) ∨ ((k = 41 ∨ k = 42) ∧ j < C 3) ∨ (k = 43 ∧ j < C 1)) → gi u k j = gi w k j ∧ gl u k j = gl w k j
/-- symbol i is in the reference's list of SCOPE s -/
def LST (w : Wd) (s i : Nat) : Prop := ∃ L, LNM w (gi w 16 s) L ∧ (∀ j ∈ L, j < 9000) ∧ i ∈ L
/-- symbols that are there get into no other list -/
def EXL (w u : Wd) : Prop := ∀ c1 c2 : Nat, c1 ≤ 9000 → c2 ≤ 9000 → gi w 0 42 = Int32.ofNat c1 → gi w 0 28 = Int32.ofNat c2 → ∃ d1 d2 : Nat, c1 ≤ d1 ∧ c2 ≤ d2 ∧ d1 ≤ 9000 ∧ d2 ≤ 9000 ∧ gi u 0 42 = Int32.ofNat d1 ∧ gi u 0 28 = Int32.ofNat d2 ∧ (∀ s i, s < d2 → i < c1 → LST u s i → s < c2 ∧ LST w s i ∧ gi u 21 i = gi w 21 i) ∧ ∀ s i, s < c2 → i < c1 → LST w s i → LST u s i
theorem EXL.off {P : Nat → Nat → Prop} {u w : Wd} (h : OFF P u w) (hP : ∀ k j, P k j → k ≠ 16 ∧ k ≠ 21 ∧ ¬ (k = 0 ∧ (j = 28 ∨ j = 42))) : EXL w u := fun c1 c2 h1 h2 h3 h4 => by
  refine ⟨c1, c2, Nat.le_refl _, Nat.le_refl _, h1, h2, (h 0 42 (fun q => by have := hP _ _ q; omega)).1.trans h3, (h 0 28 (fun q => by have := hP _ _ q; omega)).1.trans h4, fun s i hs hi hL => ⟨hs, ?_, (h 21 i (fun q => by have := hP _ _ q; omega)).1⟩, fun s i hs hi hL => ?_⟩
  · obtain ⟨L, l1, l2, l3⟩ := hL
    refine ⟨L, ?_, l2, l3⟩
    rw [← (h 16 s (fun q => by have := hP _ _ q; omega)).1]
    exact l1.agr (fun i _ => ((h 21 i (fun q => by have := hP _ _ q; omega)).1).symm)
  · obtain ⟨L, l1, l2, l3⟩ := hL
    refine ⟨L, ?_, l2, l3⟩
    rw [(h 16 s (fun q => by have := hP _ _ q; omega)).1]
    exact l1.agr (fun i _ => (h 21 i (fun q => by have := hP _ _ q; omega)).1)
theorem EXL.tr {u v w : Wd} (h : EXL w u) (g : EXL u v) : EXL w v := fun c1 c2 h1 h2 h3 h4 => by
  obtain ⟨d1, d2, e1, e2, e3, e4, e5, e6, e7, e8⟩ := h c1 c2 h1 h2 h3 h4
  obtain ⟨b1, b2, f1, f2, f3, f4, f5, f6, f7, f8⟩ := g d1 d2 e3 e4 e5 e6
  refine ⟨b1, b2, by omega, by omega, f3, f4, f5, f6, fun s i hs hi hL => ?_, fun s i hs hi hL => f8 s i (by omega) (by omega) (e8 s i hs hi hL)⟩
  obtain ⟨k1, k2, k3⟩ := f7 s i hs (by omega) hL
  obtain ⟨k4, k5, k6⟩ := e7 s i k1 hi k2
  exact ⟨k4, k5, k3.trans k6⟩
theorem LNM.det {w : Wd} : ∀ (L L' : List Nat) (x : Int32), LNM w x L → LNM w x L' → (∀ j ∈ L, j < 9000) → (∀ j ∈ L', j < 9000) → L = L' := by
  have h1 : ∀ n : Nat, n < 9000 → ¬ ((-1 : Int32) = Int32.ofNat n) := fun n hn e => by
    have h2 : (0 : Int32) ≤ Int32.ofNat n := zl_iN (by omega)
    rw [← e] at h2
    exact absurd h2 (by decide)
  intro L
  induction L with
  | nil =>
    intro L' x h h' _ b'
    cases L' with
    | nil => rfl
    | cons i r => exact absurd ((show x = -1 from h).symm.trans h'.1) (h1 i (b' i List.mem_cons_self))
  | cons i r ih =>
    intro L' x h h' b b'
    cases L' with
    | nil => exact absurd ((show x = -1 from h').symm.trans h.1) (h1 i (b i List.mem_cons_self))
    | cons i' r' =>
      have hi : i = i' := by
        have := b i List.mem_cons_self
        have := b' i' List.mem_cons_self
        exact (eq_iN (by omega) (by omega)).mp (h.1.symm.trans h'.1)
      subst hi
      rw [ih r' _ h.2 h'.2 (fun j hj => b j (List.mem_cons_of_mem _ hj)) (fun j hj => b' j (List.mem_cons_of_mem _ hj))]
theorem LNM.nx {u w : Wd} {i : Nat} : ∀ (L : List Nat) (x y : Int32), LNM w x L → LNM u y L → i ∈ L → gi u 21 i = gi w 21 i := by
  intro L
  induction L with
  | nil => exact fun x y _ _ h => absurd h (by simp)
  | cons j r ih =>
    intro x y h h' hi
    by_cases q : i ∈ r
    · exact ih _ _ h.2 h'.2 q
    · rcases List.mem_cons.mp hi with e | e
      · subst e
        cases r with
        | nil => exact (show gi u 21 i = -1 from h'.2).trans (show gi w 21 i = -1 from h.2).symm
        | cons k t => exact h'.2.1.trans h.2.1.symm
      · exact absurd e q
theorem LNM.suf {u : Wd} : ∀ (A L : List Nat) (y : Int32), LNM u y (A ++ L) → ∃ y', LNM u y' L := by
  intro A
  induction A with
  | nil => exact fun L y h => ⟨y, h⟩
  | cons a r ih => exact fun L y h => ih L _ h.2
/-- the next one of the list was declared before -/
def D21 (w : Wd) (i : Nat) : Prop := gi w 21 i = -1 ∨ ∃ j, j < i ∧ gi w 21 i = Int32.ofNat j
theorem LNM.d21 {w : Wd} {i : Nat} : ∀ (L : List Nat) (x : Int32), LNM w x (i :: L) → (∀ j ∈ L, j < i) → D21 w i := by
  intro L x h hL
  cases L with
  | nil => exact Or.inl h.2
  | cons j r => exact Or.inr ⟨j, hL j List.mem_cons_self, h.2.1⟩
theorem RSC.exl {nm : Nat → Nat} {vv : Nat → Int64} {C C' TK TK' : Nat → Nat} {SL SL' : Nat → List Nat} {stk stk' : List Nat} {u w : Wd} (h : RSC nm vv C TK SL stk w) (g : RSC nm vv C' TK' SL' stk' u) (h1 : C 1 ≤ C' 1) (h2 : C 2 ≤ C' 2) (b1 : C' 1 ≤ 9000) (b2 : C' 2 ≤ 9000) (hb : ∀ s, ∀ i ∈ SL s, i < 9000) (hb' : ∀ s, ∀ i ∈ SL' s, i < 9000) (hS : ∀ s i, s < C' 2 → i < C 1 → i ∈ SL' s → s < C 2 ∧ i ∈ SL s) (hS' : ∀ s, SL s <:+ SL' s) : EXL w u := by
  intro c1 c2 k1 k2 k3 k4
  have e1 : c1 = C 1 := (eq_iN (by omega) (by omega)).mp (k3.symm.trans h.2.1)
  have e2 : c2 = C 2 := (eq_iN (by omega) (by omega)).mp (k4.symm.trans h.1)
  rw [e1, e2]
  refine ⟨C' 1, C' 2, h1, h2, b1, b2, g.2.1, g.1, fun s i hs hi hL => ?_, fun s i hs hi hL => ?_⟩
  rotate_left
  · obtain ⟨L, l1, l2, l3⟩ := hL
    rw [LNM.det L (SL s) _ l1 (h.2.2.2.1 s hs) l2 (hb s)] at l3
    exact ⟨SL' s, g.2.2.2.1 s (by omega), hb' s, (hS' s).subset l3⟩
  obtain ⟨L, l1, l2, l3⟩ := hL
  have hd := LNM.det L (SL' s) _ l1 (g.2.2.2.1 s hs) l2 (hb' s)
  rw [hd] at l3
  obtain ⟨m1, m2⟩ := hS s i hs hi l3
  obtain ⟨A, m3⟩ := hS' s
  have hu := g.2.2.2.1 s hs
  rw [← m3] at hu
  obtain ⟨y', hu⟩ := LNM.suf _ _ _ hu
  exact ⟨m1, ⟨SL s, h.2.2.2.1 s m1, hb s, m2⟩, LNM.nx _ _ _ (h.2.2.2.1 s m1) hu m2⟩
/-- symbol i is in no list but that of s -/
def NIL (w : Wd) (i s : Nat) : Prop := ∃ c1 c2 : Nat, i < c1 ∧ c1 ≤ 9000 ∧ c2 ≤ 9000 ∧ gi w 0 42 = Int32.ofNat c1 ∧ gi w 0 28 = Int32.ofNat c2 ∧ (∀ s', s' < c2 → LST w s' i → s' = s ∧ D21 w i) ∧ (gi w 0 10 ≠ 0 ∨ s < c2 ∧ LST w s i)
theorem NIL.ext {w u : Wd} {i s : Nat} (h : NIL w i s) (g : EXL w u) (h10 : gi w 0 10 ≠ 0 → gi u 0 10 ≠ 0) : NIL u i s := by
  obtain ⟨c1, c2, h1, h2, h3, h4, h5, h6, h7⟩ := h
  obtain ⟨d1, d2, e1, e2, e3, e4, e5, e6, e7, e8⟩ := g c1 c2 h2 h3 h4 h5
  refine ⟨d1, d2, by omega, e3, e4, e5, e6, fun s' hs hL => ?_, h7.imp h10 (fun z => ⟨by omega, e8 s i z.1 h1 z.2⟩)⟩
  obtain ⟨k1, k2, k3⟩ := e7 s' i hs h1 hL
  obtain ⟨k4, k5⟩ := h6 s' k1 k2
  refine ⟨k4, ?_⟩
  unfold D21
  rw [k3]
  exact k5
theorem RSC.nil {nm : Nat → Nat} {vv : Nat → Int64} {C TK : Nat → Nat} {SL : Nat → List Nat} {stk : List Nat} {w : Wd} {i s : Nat} (h : RSC nm vv C TK SL stk w) (hi : i < C 1) (b1 : C 1 ≤ 9000) (b2 : C 2 ≤ 9000) (hb : ∀ s, ∀ i ∈ SL s, i < 9000) (hS : ∀ s', s' < C 2 → i ∈ SL s' → s' = s ∧ D21 w i) (h10 : gi w 0 10 ≠ 0 ∨ s < C 2 ∧ i ∈ SL s) : NIL w i s := by
  refine ⟨C 1, C 2, hi, b1, b2, h.2.1, h.1, fun s' hs hL => ?_, h10.imp id (fun z => ⟨z.1, SL s, h.2.2.2.1 s z.1, hb s, z.2⟩)⟩
  obtain ⟨L, l1, l2, l3⟩ := hL
  rw [LNM.det L (SL s') _ l1 (h.2.2.2.1 s' hs) l2 (hb s')] at l3
  exact hS s' hs l3
/-- the reference's slots of a procedure only grow -/
def EXS (w u : Wd) : Prop := ∀ c4 : Nat, c4 ≤ 2000 → gi w 0 53 = Int32.ofNat c4 → (∃ d4 : Nat, c4 ≤ d4 ∧ d4 ≤ 2000 ∧ gi u 0 53 = Int32.ofNat d4) ∧ ∀ p q : Nat, p < c4 → q ≤ 60000 → gi w 35 p = Int32.ofNat q → ∃ q' : Nat, q ≤ q' ∧ q' ≤ 60000 ∧ gi u 35 p = Int32.ofNat q'
theorem EXS.off {P : Nat → Nat → Prop} {u w : Wd} (h : OFF P u w) (hP : ∀ k j, P k j → k ≠ 35 ∧ ¬ (k = 0 ∧ j = 53)) : EXS w u := fun c4 h1 h2 =>
  ⟨⟨c4, Nat.le_refl _, h1, (h 0 53 (fun q => (hP _ _ q).2 ⟨rfl, rfl⟩)).1.trans h2⟩, fun p q _ hq h3 => ⟨q, Nat.le_refl _, hq, (h 35 p (fun q => (hP _ _ q).1 rfl)).1.trans h3⟩⟩
theorem EXS.tr {u v w : Wd} (h : EXS w u) (g : EXS u v) : EXS w v := fun c4 h1 h2 => by
  obtain ⟨⟨d4, e1, e2, e3⟩, e4⟩ := h c4 h1 h2
  obtain ⟨⟨b4, f1, f2, f3⟩, f4⟩ := g d4 e2 e3
  refine ⟨⟨b4, by omega, f2, f3⟩, fun p q hp hq h3 => ?_⟩
  obtain ⟨q1, k1, k2, k3⟩ := e4 p q hp hq h3
  obtain ⟨q2, m1, m2, m3⟩ := f4 p q1 (by omega) k2 k3
  exact ⟨q2, by omega, m2, m3⟩
/-- one slot count grows -/
theorem EXS.slot {P : Nat → Nat → Prop} {u w : Wd} {p q q' : Nat} (h : OFF P u w) (hP : ∀ k j, P k j → (k = 35 → j = p) ∧ ¬ (k = 0 ∧ j = 53)) (h1 : gi w 35 p = Int32.ofNat q) (h2 : gi u 35 p = Int32.ofNat q') (hq : q ≤ q' ∧ q' ≤ 60000) : EXS w u := fun c4 h3 h4 =>
  ⟨⟨c4, Nat.le_refl _, h3, (h 0 53 (fun q => (hP _ _ q).2 ⟨rfl, rfl⟩)).1.trans h4⟩, fun p' x hp hx h5 => by
    by_cases e : p' = p
    · subst e
      have e2 : q = x := (eq_iN (by omega) (by omega)).mp (h1.symm.trans h5)
      exact ⟨q', by omega, hq.2, h2⟩
    · exact ⟨x, Nat.le_refl _, hx, (h 35 p' (fun q => e ((hP _ _ q).1 rfl))).1.trans h5⟩⟩
/-- one procedure more -/
theorem EXS.newp {P : Nat → Nat → Prop} {u w : Wd} {c : Nat} (h : OFF P u w) (hP : ∀ k j, P k j → (k = 35 → j = c)) (h1 : gi w 0 53 = Int32.ofNat c) (h2 : gi u 0 53 = Int32.ofNat (c + 1)) (hc : c + 1 ≤ 2000) : EXS w u := fun c4 h3 h4 => by
  have e4 : c = c4 := (eq_iN (by omega) (by omega)).mp (h1.symm.trans h4)
  exact ⟨⟨c + 1, by omega, hc, h2⟩, fun p' x hp hx h5 => ⟨x, Nat.le_refl _, hx, (h 35 p' (fun q => by have := hP _ _ q rfl; omega)).1.trans h5⟩⟩
/-- a fault noted stays; symbols stay in their lists -/
def EXF (w u : Wd) : Prop := (gi w 0 10 ≠ 0 → gi u 0 10 ≠ 0) ∧ EXL w u ∧ EXS w u
theorem EXF.rf {w : Wd} : EXF w w := ⟨fun h => h, EXL.off (P := fun _ _ => False) OFF.rf (fun _ _ h => h.elim), EXS.off (P := fun _ _ => False) OFF.rf (fun _ _ h => h.elim)⟩
theorem EXF.mk {P : Nat → Nat → Prop} {u w : Wd} (h : OFF P u w) (hP : ∀ k j, P k j → k ≠ 16 ∧ k ≠ 21 ∧ k ≠ 35 ∧ ¬ (k = 0 ∧ (j = 28 ∨ j = 42 ∨ j = 53))) (hf : gi w 0 10 ≠ 0 → gi u 0 10 ≠ 0) : EXF w u := ⟨hf, EXL.off h (fun k j hk => by have := hP k j hk; omega), EXS.off h (fun k j hk => by have := hP k j hk; omega)⟩
theorem EXF.off {P : Nat → Nat → Prop} {u w : Wd} (h : OFF P u w) (hP : ∀ k j, P k j → k ≠ 16 ∧ k ≠ 21 ∧ k ≠ 35 ∧ ¬ (k = 0 ∧ (j = 10 ∨ j = 28 ∨ j = 42 ∨ j = 53))) : EXF w u := EXF.mk h (fun k j hk => by have := hP k j hk; omega) (fun hh => by rw [(h 0 10 (fun q => by have := hP _ _ q; omega)).1]; exact hh)
theorem EXF.slot {P : Nat → Nat → Prop} {u w : Wd} {p q q' : Nat} (h : OFF P u w) (hP : ∀ k j, P k j → k ≠ 16 ∧ k ≠ 21 ∧ (k = 35 → j = p) ∧ ¬ (k = 0 ∧ (j = 28 ∨ j = 42 ∨ j = 53))) (h1 : gi w 35 p = Int32.ofNat q) (h2 : gi u 35 p = Int32.ofNat q') (hq : q ≤ q' ∧ q' ≤ 60000) (hf : gi w 0 10 ≠ 0 → gi u 0 10 ≠ 0) : EXF w u := ⟨hf, EXL.off h (fun k j hk => by have := hP k j hk; omega), EXS.slot h (fun k j hk => by have := hP k j hk; omega) h1 h2 hq⟩
theorem EXF.newp {P : Nat → Nat → Prop} {u w : Wd} {c : Nat} (h : OFF P u w) (hP : ∀ k j, P k j → k ≠ 16 ∧ k ≠ 21 ∧ (k = 35 → j = c) ∧ ¬ (k = 0 ∧ (j = 10 ∨ j = 28 ∨ j = 42))) (h1 : gi w 0 53 = Int32.ofNat c) (h2 : gi u 0 53 = Int32.ofNat (c + 1)) (hc : c + 1 ≤ 2000) : EXF w u := ⟨fun hh => by rw [(h 0 10 (fun q => by have := hP _ _ q; omega)).1]; exact hh, EXL.off h (fun k j hk => by have := hP k j hk; omega), EXS.newp h (fun k j hk => (hP k j hk).2.2.1) h1 h2 hc⟩
theorem EXF.tr {u v w : Wd} (h : EXF w u) (g : EXF u v) : EXF w v := ⟨fun hh => g.1 (h.1 hh), h.2.1.tr g.2.1, h.2.2.tr g.2.2⟩
theorem EXF.fn {P : Nat → Nat → Prop} {u w : Wd} {num y : Int32} (hO : OFF P u w) (hP : ∀ k j, P k j → k ≠ 16 ∧ k ≠ 21 ∧ k ≠ 35 ∧ ¬ (k = 0 ∧ (j = 28 ∨ j = 42 ∨ j = 53))) (h : FLM u = FN (FLM w) num y) (hn : num ≠ 0) : EXF w u := EXF.mk hO hP fun _ => by
  show (FLM u).1 ≠ 0
  rw [h]
  exact FN_ne hn
/-- procedure p has at least q of the reference's slots -/
def GE35 (w : Wd) (p q : Nat) : Prop := ∃ c4 Q : Nat, p < c4 ∧ c4 ≤ 2000 ∧ gi w 0 53 = Int32.ofNat c4 ∧ gi w 35 p = Int32.ofNat Q ∧ q ≤ Q ∧ Q ≤ 60000
theorem GE35.ext {w u : Wd} {p q : Nat} (h : GE35 w p q) (hE : EXF w u) : GE35 u p q := by
  obtain ⟨c4, Q, h1, h2, h3, h4, h5, h6⟩ := h
  obtain ⟨⟨d4, e1, e2, e3⟩, e4⟩ := hE.2.2 c4 h2 h3
  obtain ⟨Q', f1, f2, f3⟩ := e4 p Q h1 h6 h4
  exact ⟨d4, Q', by omega, e2, e3, f3, by omega, f2⟩
/-- what's told of all that comes after, which keeps what lies below the counters Cf, tf -/
def FACT (stk : List Nat) (prs : PRL) (obl : List Nat) (lo : Nat) (Cf : Nat → Nat) (tf pd : Nat) (Φ : Wd → Wd → Prop) (wA wM : Wd) : Prop := ∀ fA fM, EXTA Cf tf stk obl wA fA → EXTL lo Cf stk prs obl pd wM fM → EXF wM fM → Φ fA fM
/-- a step: all below the counters stays -/
def STEP (C : Nat → Nat) (t : Nat) (stk : List Nat) (prs : PRL) (obl : List Nat) (wA wM : Wd) (C' : Nat → Nat) (t' : Nat) (uA uM : Wd) : Prop := LEC C C' ∧ t ≤ t' ∧ EXTA C t stk obl wA uA ∧ EXTL 0 C stk prs obl (C 0) wM uM ∧ EXF wM uM
theorem EXTL.wk {lo lo' : Nat} {C C' : Nat → Nat} {stk obl : List Nat} {prs : PRL} {pd pd' : Nat} {w u : Wd} (h : EXTL lo' C' stk prs obl pd' w u) (hl : lo' ≤ lo) (hC : LEC C C') (hp : pd' = pd ∨ C 0 ≤ pd' ∨ pd' < lo) : EXTL lo C stk prs obl pd w u := by
  intro k j hk
  have h0 := hC 0
  have h1 := hC 1
  have h2 := hC 2
  have h3 := hC 3
  have h4 := hC 4
  refine h k j ?_
  rcases hk with q | q | q | q | q | q | q | q | q
  · exact Or.inl ⟨q.1, by omega, by omega⟩
  · exact Or.inr (Or.inl ⟨q.1, by omega, by omega, by omega⟩)
  · exact Or.inr (Or.inr (Or.inl ⟨q.1, by omega⟩))
  · exact Or.inr (Or.inr (Or.inr (Or.inl ⟨q.1, by omega, q.2.2⟩)))
  · exact Or.inr (Or.inr (Or.inr (Or.inr (Or.inl ⟨q.1, q.2.1, by omega⟩))))
  · exact Or.inr (Or.inr (Or.inr (Or.inr (Or.inr (Or.inl ⟨q.1, by omega, q.2.2⟩)))))
  · exact Or.inr (Or.inr (Or.inr (Or.inr (Or.inr (Or.inr (Or.inl ⟨q.1, by omega, q.2.2⟩))))))
  · exact Or.inr (Or.inr (Or.inr (Or.inr (Or.inr (Or.inr (Or.inr (Or.inl ⟨q.1, by omega⟩)))))))
  · exact Or.inr (Or.inr (Or.inr (Or.inr (Or.inr (Or.inr (Or.inr (Or.inr ⟨q.1, by omega⟩)))))))
theorem EXTL.tr {lo : Nat} {C C' : Nat → Nat} {stk stk' obl obl' : List Nat} {prs prs' : PRL} {pd pd' : Nat} {w u v : Wd} (h : EXTL lo C stk prs obl pd w u) (g : EXTL lo C' stk' prs' obl' pd' u v) (hC : LEC C C') (hs : ∀ s ∈ stk', s < C 2 → s ∈ stk) (hp : ∀ p ∈ prs', p.1 < C 4 → ∃ q ∈ prs, q.1 = p.1) (hd : pd' = pd ∨ C 0 ≤ pd') (hb : ∀ s ∈ obl', s < C 3 ∨ (9000 ≤ s ∧ s ≤ 9000 + C 2) → s ∈ obl) : EXTL lo C stk prs obl pd w v := by
  intro k j hk
  have h0 := hC 0
  have h1 := hC 1
  have h2 := hC 2
  have h3 := hC 3
  have h4 := hC 4
  have e := h k j hk
  have hg : gi v k j = gi u k j ∧ gl v k j = gl u k j := by
    refine g k j ?_
    rcases hk with q | q | q | q | q | q | q | q | q
    · exact Or.inl ⟨q.1, q.2.1, by omega⟩
    · exact Or.inr (Or.inl ⟨q.1, q.2.1, by omega, by omega⟩)
    · exact Or.inr (Or.inr (Or.inl ⟨q.1, by omega⟩))
    · exact Or.inr (Or.inr (Or.inr (Or.inl ⟨q.1, by omega, fun hm => q.2.2 (hs j hm q.2.1)⟩)))
    · exact Or.inr (Or.inr (Or.inr (Or.inr (Or.inl ⟨q.1, q.2.1, by omega⟩))))
    · refine Or.inr (Or.inr (Or.inr (Or.inr (Or.inr (Or.inl ⟨q.1, by omega, fun h9 p hm hj => ?_⟩)))))
      obtain ⟨q', m1, m2⟩ := hp p hm (by rw [hj]; exact q.2.1)
      exact q.2.2 h9 q' m1 (m2.trans hj)
    · exact Or.inr (Or.inr (Or.inr (Or.inr (Or.inr (Or.inr (Or.inl ⟨q.1, by omega, fun hm => q.2.2 (hb j hm (Or.inl q.2.1))⟩))))))
    · exact Or.inr (Or.inr (Or.inr (Or.inr (Or.inr (Or.inr (Or.inr (Or.inl ⟨q.1, by omega⟩)))))))
    · exact Or.inr (Or.inr (Or.inr (Or.inr (Or.inr (Or.inr (Or.inr (Or.inr ⟨q.1, by omega⟩)))))))
  exact ⟨hg.1.trans e.1, hg.2.trans e.2⟩
theorem LEC.rf {C : Nat → Nat} : LEC C C := fun _ => Nat.le_refl _
theorem LEC.tr {C C' C'' : Nat → Nat} (h : LEC C C') (g : LEC C' C'') : LEC C C'' := fun i => Nat.le_trans (h i) (g i)
theorem STEP.rf {C : Nat → Nat} {t : Nat} {stk obl : List Nat} {prs : PRL} {wA wM : Wd} : STEP C t stk prs obl wA wM C t wA wM := ⟨LEC.rf, Nat.le_refl _, EXTA.rf, fun _ _ _ => ⟨rfl, rfl⟩, EXF.rf⟩
theorem STEP.tr {C C' C'' : Nat → Nat} {t t' t'' : Nat} {stk obl : List Nat} {prs : PRL} {wA wM uA uM vA vM : Wd} (h : STEP C t stk prs obl wA wM C' t' uA uM) (g : STEP C' t' stk prs obl uA uM C'' t'' vA vM) : STEP C t stk prs obl wA wM C'' t'' vA vM := by
  obtain ⟨a, b, c, d, f⟩ := h
  obtain ⟨a', b', c', d', f'⟩ := g
  refine ⟨a.tr a', by omega, c.tr c' a b (fun s hs _ => hs) (fun s hs _ => hs), ?_, f.tr f'⟩
  refine EXTL.tr d (pd' := C' 0) d' a (fun s hs _ => hs) (fun p hp _ => ⟨p, hp, rfl⟩) (Or.inr (a 0)) (fun s hs _ => hs)
/-- steps keep facts -/
theorem FACT.step {stk obl : List Nat} {prs : PRL} {lo : Nat} {Cf : Nat → Nat} {tf pd : Nat} {Φ : Wd → Wd → Prop} {wA wM uA uM : Wd} {C C' : Nat → Nat} {t t' : Nat} (h : FACT stk prs obl lo Cf tf pd Φ wA wM) (hC : LEC Cf C) (ht : tf ≤ t) (hs : STEP C t stk prs obl wA wM C' t' uA uM) : FACT stk prs obl lo Cf tf pd Φ uA uM := by
  obtain ⟨a, b, c, d, f⟩ := hs
  intro fA fM hA hM hE
  refine h fA fM (fun k j hk => ?_) (fun k j hk => ?_) (f.tr hE)
  · have h1 := hC 1
    have h2 := hC 2
    refine (hA k j hk).trans (c k j ?_)
    rcases hk with q | q | q | q | q | q | q
    · exact Or.inl ⟨q.1, q.2.1, by omega⟩
    · exact Or.inr (Or.inl ⟨q.1, by omega⟩)
    · exact Or.inr (Or.inr (Or.inl ⟨q.1, q.2.1, by omega⟩))
    · exact Or.inr (Or.inr (Or.inr (Or.inl ⟨q.1, q.2.1, by omega⟩)))
    · exact Or.inr (Or.inr (Or.inr (Or.inr (Or.inl ⟨q.1, by omega, q.2.2⟩))))
    · exact Or.inr (Or.inr (Or.inr (Or.inr (Or.inr (Or.inl ⟨q.1, by omega⟩)))))
    · exact Or.inr (Or.inr (Or.inr (Or.inr (Or.inr (Or.inr ⟨q.1, by omega, q.2.2⟩)))))
  · have h0 := hC 0
    have h1 := hC 1
    have h2 := hC 2
    have h3 := hC 3
    have h4 := hC 4
    have e : gi uM k j = gi wM k j ∧ gl uM k j = gl wM k j := by
      refine d k j ?_
      rcases hk with q | q | q | q | q | q | q | q | q
      · exact Or.inl ⟨q.1, by omega, by omega⟩
      · exact Or.inr (Or.inl ⟨q.1, by omega, by omega, by omega⟩)
      · exact Or.inr (Or.inr (Or.inl ⟨q.1, by omega⟩))
      · exact Or.inr (Or.inr (Or.inr (Or.inl ⟨q.1, by omega, q.2.2⟩)))
      · exact Or.inr (Or.inr (Or.inr (Or.inr (Or.inl ⟨q.1, q.2.1, by omega⟩))))
      · exact Or.inr (Or.inr (Or.inr (Or.inr (Or.inr (Or.inl ⟨q.1, by omega, q.2.2⟩)))))
      · exact Or.inr (Or.inr (Or.inr (Or.inr (Or.inr (Or.inr (Or.inl ⟨q.1, by omega, q.2.2⟩))))))
      · exact Or.inr (Or.inr (Or.inr (Or.inr (Or.inr (Or.inr (Or.inr (Or.inl ⟨q.1, by omega⟩)))))))
      · exact Or.inr (Or.inr (Or.inr (Or.inr (Or.inr (Or.inr (Or.inr (Or.inr ⟨q.1, by omega⟩)))))))
    have hk' : gi fM k j = gi uM k j ∧ gl fM k j = gl uM k j := by
      refine hM k j ?_
      rcases hk with q | q | q | q | q | q | q | q | q
      · exact Or.inl q
      · exact Or.inr (Or.inl q)
      · exact Or.inr (Or.inr (Or.inl q))
      · exact Or.inr (Or.inr (Or.inr (Or.inl q)))
      · exact Or.inr (Or.inr (Or.inr (Or.inr (Or.inl q))))
      · exact Or.inr (Or.inr (Or.inr (Or.inr (Or.inr (Or.inl q)))))
      · exact Or.inr (Or.inr (Or.inr (Or.inr (Or.inr (Or.inr (Or.inl q))))))
      · exact Or.inr (Or.inr (Or.inr (Or.inr (Or.inr (Or.inr (Or.inr (Or.inl q)))))))
      · exact Or.inr (Or.inr (Or.inr (Or.inr (Or.inr (Or.inr (Or.inr (Or.inr q)))))))
    exact ⟨hk'.1.trans e.1, hk'.2.trans e.2⟩
/-- facts of fewer things -/
theorem FACT.wk {stk stk' obl obl' : List Nat} {prs prs' : PRL} {lo lo' : Nat} {Cf Cf' : Nat → Nat} {tf tf' pd pd' : Nat} {Φ : Wd → Wd → Prop} {wA wM : Wd} (h : FACT stk prs obl lo Cf tf pd Φ wA wM) (hl : lo' ≤ lo) (hC : LEC Cf Cf') (ht : tf ≤ tf') (hp : pd' = pd ∨ Cf 0 ≤ pd' ∨ pd' < lo) (hs : ∀ s ∈ stk', s < Cf 2 → s ∈ stk) (hpr : ∀ p ∈ prs', p.1 < Cf 4 → ∃ q ∈ prs, q.1 = p.1) (ho : ∀ s ∈ obl', s < Cf 3 ∨ (9000 ≤ s ∧ s ≤ 9000 + Cf 2) → s ∈ obl) : FACT stk' prs' obl' lo' Cf' tf' pd' Φ wA wM := by
  intro fA fM hA hM hE
  have h0 := hC 0
  have h1 := hC 1
  have h2 := hC 2
  have h3 := hC 3
  have h4 := hC 4
  refine h fA fM (fun k j hk => ?_) (fun k j hk => ?_) hE
  · refine hA k j ?_
    rcases hk with q | q | q | q | q | q | q
    · exact Or.inl ⟨q.1, q.2.1, by omega⟩
    · exact Or.inr (Or.inl ⟨q.1, by omega⟩)
    · exact Or.inr (Or.inr (Or.inl ⟨q.1, q.2.1, by omega⟩))
    · exact Or.inr (Or.inr (Or.inr (Or.inl ⟨q.1, q.2.1, by omega⟩)))
    · refine Or.inr (Or.inr (Or.inr (Or.inr (Or.inl ⟨q.1, by omega, fun s hm e => ?_⟩))))
      by_cases q3 : s < Cf 2
      · exact q.2.2 s (hs s hm q3) e
      · have := q.2.1; omega
    · exact Or.inr (Or.inr (Or.inr (Or.inr (Or.inr (Or.inl ⟨q.1, by omega⟩)))))
    · exact Or.inr (Or.inr (Or.inr (Or.inr (Or.inr (Or.inr ⟨q.1, by omega, fun hm => q.2.2 (ho _ hm (Or.inr (by omega)))⟩)))))
  · refine hM k j ?_
    rcases hk with q | q | q | q | q | q | q | q | q
    · exact Or.inl ⟨q.1, by omega, by omega⟩
    · exact Or.inr (Or.inl ⟨q.1, by omega, by omega, by omega⟩)
    · exact Or.inr (Or.inr (Or.inl ⟨q.1, by omega⟩))
    · exact Or.inr (Or.inr (Or.inr (Or.inl ⟨q.1, by omega, fun hm => q.2.2 (hs j hm q.2.1)⟩)))
    · exact Or.inr (Or.inr (Or.inr (Or.inr (Or.inl ⟨q.1, q.2.1, by omega⟩))))
    · refine Or.inr (Or.inr (Or.inr (Or.inr (Or.inr (Or.inl ⟨q.1, by omega, fun h9 p hm e => ?_⟩)))))
      obtain ⟨q', m1, m2⟩ := hpr p hm (by rw [e]; exact q.2.1)
      exact q.2.2 h9 q' m1 (m2.trans e)
    · exact Or.inr (Or.inr (Or.inr (Or.inr (Or.inr (Or.inr (Or.inl ⟨q.1, by omega, fun hm => q.2.2 (ho j hm (Or.inl q.2.1))⟩))))))
    · exact Or.inr (Or.inr (Or.inr (Or.inr (Or.inr (Or.inr (Or.inr (Or.inl ⟨q.1, by omega⟩)))))))
    · exact Or.inr (Or.inr (Or.inr (Or.inr (Or.inr (Or.inr (Or.inr (Or.inr ⟨q.1, by omega⟩)))))))
theorem FACT.imp {stk obl : List Nat} {prs : PRL} {lo : Nat} {Cf : Nat → Nat} {tf pd : Nat} {Φ Ψ : Wd → Wd → Prop} {wA wM : Wd} (h : FACT stk prs obl lo Cf tf pd Φ wA wM) (hi : ∀ fA fM, Φ fA fM → Ψ fA fM) : FACT stk prs obl lo Cf tf pd Ψ wA wM := fun fA fM hA hM hE => hi _ _ (h fA fM hA hM hE)
theorem FACT.and {stk obl : List Nat} {prs : PRL} {lo : Nat} {Cf : Nat → Nat} {tf pd : Nat} {Φ Ψ : Wd → Wd → Prop} {wA wM : Wd} (h : FACT stk prs obl lo Cf tf pd Φ wA wM) (g : FACT stk prs obl lo Cf tf pd Ψ wA wM) : FACT stk prs obl lo Cf tf pd (fun a b => Φ a b ∧ Ψ a b) wA wM := fun fA fM hA hM hE => ⟨h fA fM hA hM hE, g fA fM hA hM hE⟩
section JT
variable {kd wr nm : Nat → Nat} {vv : Nat → Int64} {m z : Nat} {gA gM : Wd} {lv : Bool} {sl us B : Nat} {stk obl stkF : List Nat} {prs : PRL} {C TK : Nat → Nat} {SL : Nat → List Nat} {t d b : Nat} {fa : Int32} {wA wM : Wd} {γ α : Type} {wd : γ → Wd} {S : γ → α → Wd → Prop} {P : (Nat → Nat) → Nat → Wd → Wd → Prop}
/-- steps keep P -/
def STBJ (stk : List Nat) (prs : PRL) (obl : List Nat) (P : (Nat → Nat) → Nat → Wd → Wd → Prop) : Prop := ∀ C t wA wM C' t' uA uM, P C t wA wM → STEP C t stk prs obl wA wM C' t' uA uM → P C' t' uA uM
theorem STJ.in1 (h : STJ kd wr nm vv m z gA gM lv sl us stk prs C TK SL t d b fa wA wM) : IN1 kd wr z wA t 0 fa := by
  rcases h with ⟨_, h2, h3⟩ | ⟨_, h2, h3⟩
  · rw [h2]; exact h3.1
  · rw [h2]; exact h3.1
theorem STJ.live (h : STJ kd wr nm vv m z gA gM lv sl us stk prs C TK SL t d b fa wA wM) (hk : kd t ≠ 0) : lv = true ∧ fa = -1 ∧ JL kd wr nm vv m z gA gM sl us stk prs C TK SL t d wA wM := by
  rcases h with h | ⟨_, h2, h3⟩
  · exact h
  · have := h3.1.zk
    rw [← h2] at this
    exact absurd this hk
theorem upC_id {C : Nat → Nat} {i : Nat} : upC C i (C i) = C := by
  funext j
  show (if j = i then C i else C j) = C j
  split
  · rename_i h; rw [h]
  · rfl
theorem FA_1 {p : Nat} : FA wr (-1) p = Int32.ofNat (wr p) := if_neg (by decide)
/-- a change of the class's that is none of the TOKENS' -/
theorem JL.pre (hT : TOKS kd wr nm vv m z gA gM) (h : JL kd wr nm vv m z gA gM sl us stk prs C TK SL t d wA wM) {uA : Wd} (hO : OFF PRE uA wA) : JL kd wr nm vv m z gA gM sl us stk prs C TK SL t d uA wM := by
  have h1 := JL.mv hT h (hO.mono PRE.xa) OFF.rf (h.1.off hO PRE.ok) h.2.1 (n := C 0) h.2.2.2.2.2.2.2.2.2.1.1 h.2.2.2.2.2.1.1 (Nat.le_refl _) (Nat.le_refl _) h.2.2.2.2.2.1.2.1
  rw [upC_id] at h1
  exact h1
theorem DI.pre {w u : Wd} (h : DI kd wr nm z gA stk fa b w) (hO : OFF PRE u w) : DI kd wr nm z gA stk fa b u := by
  obtain ⟨a, c, e, TK, SL, ns, nsc, f, g⟩ := h
  exact ⟨a.off hO PRE.ok, c, OFF.tr (hO.mono (fun k j hp => by unfold PRE at hp; unfold PAA; omega)) e, TK, SL, ns, nsc, f.agr (fun k j hk => (hO k j (by unfold PSC at hk; unfold PRE; omega)).1), g⟩
theorem STJ.pre (hT : TOKS kd wr nm vv m z gA gM) (h : STJ kd wr nm vv m z gA gM lv sl us stk prs C TK SL t d b fa wA wM) {uA : Wd} (hO : OFF PRE uA wA) : STJ kd wr nm vv m z gA gM lv sl us stk prs C TK SL t d b fa uA wM := by
  rcases h with ⟨h1, h2, h3⟩ | ⟨h1, h2, h3⟩
  · exact Or.inl ⟨h1, h2, h3.pre hT hO⟩
  · exact Or.inr ⟨h1, h2, h3.pre hO⟩
theorem STEP.xa {uA uM : Wd} {t' n : Nat} (hA : ∀ k j, (14 ≤ k ∧ k ≤ 33 ∨ (8 ≤ k ∧ k ≤ 10 ∧ j < t)) → gi uA k j = gi wA k j) (hM : OFF (PXN (C 0)) uM wM) (ht : t ≤ t') (hn : C 0 ≤ n) : STEP C t stk prs obl wA wM (upC C 0 n) t' uA uM := by
  refine ⟨fun i => ?_, ht, fun k j hk => hA k j ?_, fun k j hk => hM k j ?_, EXF.off hM (fun k j hk => by unfold PXN at hk; omega)⟩
  · by_cases q : i = 0
    · rw [q, upC_s]; exact hn
    · rw [upC_n q]; exact Nat.le_refl _
  · rcases hk with q | q | q | q | q | q | q <;> omega
  · unfold PXN
    rcases hk with q | q | q | q | q | q | q | q | q <;> omega
theorem STEP.pre {uA : Wd} (hO : OFF PRE uA wA) : STEP C t stk prs obl wA wM C t uA wM := by
  have h := STEP.xa (C := C) (t := t) (t' := t) (n := C 0) (stk := stk) (obl := obl) (prs := prs) (wM := wM) (uM := wM) (wA := wA) (uA := uA) (fun k j hk => (hO k j (by unfold PRE; omega)).1) OFF.rf (Nat.le_refl _) (Nat.le_refl _)
  rw [upC_id] at h
  exact h
/-- a TOKEN taken by both -/
theorem JL.tok (hT : TOKS kd wr nm vv m z gA gM) (h : JL kd wr nm vv m z gA gM sl us stk prs C TK SL t d wA wM) (hk : 2 ≤ kd t) (hs1 : sl ≤ 1) {uA uM : Wd} (hin : IN1 kd wr z uA (t + 1) 0 (-1)) (hA : OFF (fun k j => k = 4 ∧ (j = 9 ∨ j = 10)) uA wA) (hM : uM = si wM 0 7 (Int32.ofNat (t + 1))) : JL kd wr nm vv m z gA gM 0 us stk prs C TK SL (t + 1) d uA uM ∧ STEP C t stk prs obl wA wM C (t + 1) uA uM ∧ t + 1 ≤ m := by
  have htm : t < m := h.2.1.lt hk
  have hO : OFF (PXN (C 0)) uM wM := by
    rw [hM]
    exact OFF.si (Or.inl ⟨rfl, Or.inl rfl⟩)
  have hw := hT.2.2.2.2.2.2.1 t htm
  have hb := h.2.2.2.2.2.1
  have h1 := JL.mv (sl' := 0) hT h (hA.mono (fun k j hp => by unfold PXA; omega)) (hO.mono PXN.xm) hin (by rw [hM]; exact h.2.1.goT (by omega)) (n := C 0) (by rw [hM, gi_si1 (by omega)]; exact h.2.2.2.2.2.2.2.2.2.1.1) (by omega) (Nat.le_refl _) (by omega) (by
    have : 1 ≤ wlN (kd t) := by
      unfold wlN
      repeat' split
      all_goals omega
    omega)
  rw [upC_id] at h1
  have h2 := STEP.xa (C := C) (t := t) (t' := t + 1) (n := C 0) (stk := stk) (obl := obl) (prs := prs) (wM := wM) (uM := uM) (wA := wA) (uA := uA) (fun k j hk => (hA k j (by omega)).1) hO (by omega) (Nat.le_refl _)
  rw [upC_id] at h2
  exact ⟨h1, h2, by omega⟩
/-- the class fails where the reference throws -/
theorem JL.dead {sl us : Nat} (h : JL kd wr nm vv m z gA gM sl us stk prs C TK SL t d wA wM) (hb : 2800 ≤ b) {uA : Wd} (hin : IN1 kd wr z uA (z - 1) 0 (Int32.ofNat (wr t))) (hw : wr t ≤ 8192) (hA : OFF (fun k j => k = 4 ∧ (j = 9 ∨ j = 10)) uA wA) : DI kd wr nm z gA stk (Int32.ofNat (wr t)) b uA := by
  refine ⟨hin, zl_iN (by omega), OFF.tr (hA.mono (fun k j hp => Or.inr (Or.inl hp))) h.2.2.1, TK, SL, C 1, C 2, h.2.2.2.2.2.2.1.agr (fun k j hk => (hA k j (by unfold PSC at hk; omega)).1), ?_⟩
  have := h.2.2.2.2.2.1
  omega
theorem OFF.pmm {uM : Wd} (h : OFF PMM wM gM) (hO : OFF (fun k j => k = 0 ∧ (j = 7 ∨ j = 8 ∨ j = 9 ∨ j = 23)) uM wM) : OFF PMM uM gM := OFF.tr (hO.mono (fun k j hp => by unfold PMM; omega)) h
/-- a TOKEN that must be there -/
theorem J.need (hT : TOKS kd wr nm vv m z gA gM) (hS : STBJ stk prs obl P) (hst : STJ kd wr nm vv m z gA gM lv sl us stk prs C TK SL t d b fa wA wM) (hP : lv = true → P C t wA wM) {c : Nat} (hc : 2 ≤ c ∧ c ≤ 50) (hd : lv = true → d ≤ 40) (hb : 2800 ≤ b) (hs1 : sl ≤ 1) {KA : Wd → Option γ} {KM : Int32 → Wd → Option (Option α × Wd)} {x : Int32} (hx : x = Int32.ofNat (kM c))
    (H : ∀ lv' t' fa' uA uM, STJ kd wr nm vv m z gA gM lv' 0 us stk prs C TK SL t' d b fa' uA uM → (lv' = true → lv = true ∧ kd t = c ∧ t' = t + 1 ∧ t + 1 ≤ m ∧ P C t' uA uM) → (lv' = false → t' = z - 1) → GLJ kd wr nm z gA gM wd lv' stkF fa' B (KA uA) (KM (Int32.ofNat t) uM) S) :
    GLJ kd wr nm z gA gM wd lv stkF fa B (lt (fX9_need (Int32.ofNat c) wA) KA) (be (fX12_expect x wM) KM) S := by
  obtain ⟨n1, n2, n3⟩ := a_need hst.in1.1 (k := c) hc.2 (by omega)
  rw [ltq]
  have hin := hst.in1
  rcases hst with ⟨h1, h2, h3⟩ | ⟨h1, h2, h3⟩
  · subst h1
    subst h2
    have hsm := h3.2.1
    have hd0 := hd rfl
    by_cases q : kd t = c
    · obtain ⟨a1, a2, a3⟩ := JL.tok (obl := obl) hT h3 (by omega) hs1 (hin.tok n3 (n1 q)) n3 rfl
      rw [m_expect hsm hd0 hx hc.1 q, be_so]
      exact H true (t + 1) (-1) _ _ (Or.inl ⟨rfl, rfl, a1⟩) (fun _ => ⟨rfl, q, rfl, a3, hS _ _ _ _ _ _ _ _ (hP rfl) a2⟩) (fun h => absurd h (by decide))
    · have hn2 := n2 q
      rw [FA_1] at hn2
      have hD := h3.dead hb (hin.tok n3 hn2) (hT.1 t) n3
      obtain ⟨g, g1, g2⟩ := (H false (z - 1) _ _ wM (Or.inr ⟨rfl, rfl, hD⟩) (fun h => absurd h (by decide)) (fun _ => rfl)).1 rfl
      rw [m_expect_no hsm hx hc.2 (Or.inr q) hc.1, be_no]
      refine ⟨fun h => absurd h (by decide), fun _ => Or.inl ⟨t, g, _, g1, g2, rfl, gi_si0 _ _ _ _, h3.2.2.2.1.pmm (OFF.si ⟨rfl, by omega⟩)⟩⟩
  · subst h1
    have hk0 : kd t = 0 := by rw [h2]; exact h3.1.zk
    have hn2 := n2 (by omega)
    have hfa : FA wr fa t = fa := if_pos h3.2.1
    rw [hfa] at hn2
    have hD : DI kd wr nm z gA stk fa b (fX9_need (Int32.ofNat c) wA) := by
      obtain ⟨a, c', e, TK', SL', ns, nsc, f, g⟩ := h3
      exact ⟨a.tok n3 hn2, c', OFF.tr (n3.mono (fun k j hp => Or.inr (Or.inl hp))) e, TK', SL', ns, nsc, f.agr (fun k j hk => (n3 k j (by unfold PSC at hk; omega)).1), g⟩
    exact ⟨fun _ => (H false (z - 1) fa _ wM (Or.inr ⟨rfl, rfl, hD⟩) (fun h => absurd h (by decide)) (fun _ => rfl)).1 rfl, fun h => absurd h (by decide)⟩
/-- a TOKEN that may be there -/
theorem J.take (hT : TOKS kd wr nm vv m z gA gM) (hS : STBJ stk prs obl P) (hst : STJ kd wr nm vv m z gA gM lv sl us stk prs C TK SL t d b fa wA wM) (hP : lv = true → P C t wA wM) {c : Nat} (hc : 2 ≤ c ∧ c ≤ 50) (hd : lv = true → d ≤ 40) (hs1 : sl ≤ 1) {KA : Bool → Wd → Option γ} {KM : Bool → Wd → Option (Option α × Wd)} {x : Int32} (hx : x = Int32.ofNat (kM c))
    (H1 : kd t = c → ∀ uA uM, STJ kd wr nm vv m z gA gM lv 0 us stk prs C TK SL (t + 1) d b fa uA uM → (lv = true → t + 1 ≤ m ∧ P C (t + 1) uA uM) → GLJ kd wr nm z gA gM wd lv stkF fa B (KA true uA) (KM true uM) S)
    (H2 : kd t ≠ c → GLJ kd wr nm z gA gM wd lv stkF fa B (KA false wA) (KM false wM) S) :
    GLJ kd wr nm z gA gM wd lv stkF fa B (lt2 (fX9_take (Int32.ofNat c) wA) KA) (be (fX12_skip x wM) KM) S := by
  by_cases q : kd t = c
  · obtain ⟨h1, h2, h3⟩ := hst.live (by omega)
    obtain ⟨e1, e2⟩ := a_take (k := Int32.ofNat c) hst.in1.1 (by omega) (by rw [q])
    have hO : OFF (fun k j => k = 4 ∧ (j = 9 ∨ j = 10)) (si wA 4 9 (Int32.ofNat (t + 1))) wA := OFF.si ⟨rfl, Or.inl rfl⟩
    have hin := hst.in1.tok hO e2
    subst h1
    subst h2
    obtain ⟨a1, a2, a3⟩ := JL.tok (obl := obl) hT h3 (by omega) hs1 hin hO rfl
    rw [e1, lt2q, m_skip h3.2.1 (hd rfl) hx hc.1 q, be_so]
    exact H1 q _ _ (Or.inl ⟨rfl, rfl, a1⟩) (fun _ => ⟨a3, hS _ _ _ _ _ _ _ _ (hP rfl) a2⟩)
  · rw [a_take_no hst.in1.1 hc.2 q, lt2q]
    have h2 := H2 q
    cases lv
    · exact ⟨fun _ => h2.1 rfl, fun h => absurd h (by decide)⟩
    · rcases hst with ⟨_, _, h3⟩ | ⟨h1, _⟩
      · rw [m_skip_no h3.2.1 hx hc.2 q, be_so]
        exact h2
      · exact absurd h1 (by decide)
end JT
