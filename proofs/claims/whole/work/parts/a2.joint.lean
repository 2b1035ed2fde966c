/-! BOTH SIDES AT ONE TOKEN: the class in its first pass, the reference making its tree -/
/-- the length of a TOKEN, at least -/
def wlN (k : Nat) : Nat := if k = 4 then 5 else if k = 10 then 9 else if k = 16 ∨ k = 17 then 4 else if k = 18 then 3 else if k = 19 ∨ k = 50 then 2 else if k = 20 then 4 else if k = 21 then 5 else 1
/-- the TOKENS, once for all: nm: the class's number of a NAME, vv: the reference's -/
def TOKS (kd wr nm : Nat → Nat) (vv : Nat → Int64) (m z : Nat) (gA gM : Wd) : Prop :=
  (∀ i, wr i ≤ 8192) ∧ (∀ i, i + 1 < z → kd i ≠ 0) ∧ m + 1 ≤ z ∧ z ≤ 8193 ∧ (∀ i, nm i < 8192) ∧ (∀ i j, vv (nm i) = vv (nm j) ↔ nm i = nm j) ∧ (∀ i, i < m → wr i + wlN (kd i) ≤ wr (i + 1)) ∧
  (∀ i, i < z → kd i = 2 → (gl gA 7 i).toInt32 = Int32.ofNat (nm i)) ∧ (∀ i, i < m → kd i = 2 → gl gM 4 i = vv (nm i))
/-- what making a tree may change at all -/
def PAA (k j : Nat) : Prop := k = 3 ∨ (k = 4 ∧ (j = 9 ∨ j = 10)) ∨ (8 ≤ k ∧ k ≤ 10) ∨ (13 ≤ k ∧ k ≤ 47)
def PMM (k j : Nat) : Prop := (k = 0 ∧ (j = 7 ∨ j = 8 ∨ j = 9 ∨ j = 10 ∨ j = 11 ∨ j = 23 ∨ j = 28 ∨ j = 29 ∨ j = 30 ∨ j = 42 ∨ j = 53 ∨ j = 54 ∨ j = 59)) ∨ (7 ≤ k ∧ k ≤ 45)
abbrev PRL : Type := List (Nat × Nat × Nat)
/-- what's told of places by counters and what is not closed stays so -/
def EXTA (C : Nat → Nat) (t : Nat) (stk obl : List Nat) (w u : Wd) : Prop := ∀ k j, ((14 ≤ k ∧ k ≤ 24 ∧ j ≤ C 1) ∨ (k = 25 ∧ j < t) ∨ (8 ≤ k ∧ k ≤ 10 ∧ j < t) ∨ (28 ≤ k ∧ k ≤ 30 ∧ j ≤ C 1) ∨ (k = 31 ∧ j ≤ C 2 ∧ ∀ s ∈ stk, j ≠ s + 1) ∨ (k = 32 ∧ j ≤ C 2) ∨ (k = 33 ∧ j ≤ C 2 ∧ 9000 + j ∉ obl)) → gi u k j = gi w k j
def EXTM (C : Nat → Nat) (stk : List Nat) (prs : PRL) (pd : Nat) (w u : Wd) : Prop := ∀ k j, (((7 ≤ k ∧ k ≤ 10 ∨ k = 12 ∨ k = 13 ∨ k = 44 ∨ k = 45) ∧ j < C 0) ∨ (k = 11 ∧ j < C 0 ∧ j ≠ pd) ∨ ((k = 14 ∨ k = 15 ∨ k = 17) ∧ j < C 2) ∨ (k = 16 ∧ j < C 2 ∧ j ∉ stk) ∨ (18 ≤ k ∧ k ≤ 28 ∧ j < C 1) ∨ ((29 ≤ k ∧ k ≤ 33 ∨ 36 ≤ k ∧ k ≤ 38) ∧ j < C 4 ∧ ∀ p ∈ prs, p.1 ≠ j) ∨ ((k = 39 ∨ k = 40) ∧ j < C 3 ∧ ∀ s ∈ stk, gi w 17 s ≠ Int32.ofNat j) ∨ ((k = 41 ∨ k = 42) ∧ j < C 3) ∨ (k = 43 ∧ j < C 1)) → gi u k j = gi w k j ∧ gl u k j = gl w k j
def LEC (C C' : Nat → Nat) : Prop := ∀ i, C i ≤ C' i
theorem EXTA.rf {C : Nat → Nat} {t : Nat} {stk obl : List Nat} {w : Wd} : EXTA C t stk obl w w := fun _ _ _ => rfl
theorem EXTM.rf {C : Nat → Nat} {stk : List Nat} {prs : PRL} {pd : Nat} {w : Wd} : EXTM C stk prs pd w w := fun _ _ _ => ⟨rfl, rfl⟩
theorem EXTA.tr {C C' : Nat → Nat} {t t' : Nat} {stk stk' obl obl' : List Nat} {w u v : Wd} (h : EXTA C t stk obl w u) (g : EXTA C' t' stk' obl' u v) (hC : LEC C C') (ht : t ≤ t') (hs : ∀ s ∈ stk', s < C 2 → s ∈ stk) (hb : ∀ s ∈ obl', s < C 3 ∨ (9000 ≤ s ∧ s ≤ 9000 + C 2) → s ∈ obl) : EXTA C t stk obl w v := by
  intro k j hk
  have h1 := hC 1
  have h2 := hC 2
  refine (g k j ?_).trans (h k j hk)
  rcases hk with q | q | q | q | q | q | q
  · exact Or.inl ⟨q.1, q.2.1, by omega⟩
  · exact Or.inr (Or.inl ⟨q.1, by omega⟩)
  · exact Or.inr (Or.inr (Or.inl ⟨q.1, q.2.1, by omega⟩))
  · exact Or.inr (Or.inr (Or.inr (Or.inl ⟨q.1, q.2.1, by omega⟩)))
  · refine Or.inr (Or.inr (Or.inr (Or.inr (Or.inl ⟨q.1, by omega, fun s hs' => ?_⟩))))
    intro e
    by_cases q3 : s < C 2
    · exact q.2.2 s (hs s hs' q3) e
    · have := q.2.1; omega
  · exact Or.inr (Or.inr (Or.inr (Or.inr (Or.inr (Or.inl ⟨q.1, by omega⟩)))))
  · exact Or.inr (Or.inr (Or.inr (Or.inr (Or.inr (Or.inr ⟨q.1, by omega, fun hm => q.2.2 (hb _ hm (Or.inr (by omega)))⟩)))))
theorem EXTM.tr {C C' : Nat → Nat} {stk stk' : List Nat} {prs prs' : PRL} {pd pd' : Nat} {w u v : Wd} (h : EXTM C stk prs pd w u) (g : EXTM C' stk' prs' pd' u v) (hC : LEC C C') (hs : ∀ s ∈ stk', s < C 2 → s ∈ stk) (hp : ∀ p ∈ prs', p.1 < C 4 → ∃ q ∈ prs, q.1 = p.1) (hd : pd' = pd ∨ C 0 ≤ pd') (hb : ∀ s ∈ stk', ¬ s < C 2 → ∀ j, j < C 3 → gi u 17 s ≠ Int32.ofNat j) : EXTM C stk prs pd w v := by
  intro k j hk
  have h0 := hC 0
  have h1 := hC 1
  have h2 := hC 2
  have h3 := hC 3
  have h4 := hC 4
  have e := h k j hk
  have hg : gi v k j = gi u k j ∧ gl v k j = gl u k j := by
    refine g k j ?_
    rcases hk with q | q | q | q | q | q | q | q | q
    · exact Or.inl ⟨q.1, by omega⟩
    · exact Or.inr (Or.inl ⟨q.1, by omega, by omega⟩)
    · exact Or.inr (Or.inr (Or.inl ⟨q.1, by omega⟩))
    · exact Or.inr (Or.inr (Or.inr (Or.inl ⟨q.1, by omega, fun hm => q.2.2 (hs j hm q.2.1)⟩)))
    · exact Or.inr (Or.inr (Or.inr (Or.inr (Or.inl ⟨q.1, q.2.1, by omega⟩))))
    · refine Or.inr (Or.inr (Or.inr (Or.inr (Or.inr (Or.inl ⟨q.1, by omega, fun p hm hj => ?_⟩)))))
      obtain ⟨q', m1, m2⟩ := hp p hm (by rw [hj]; exact q.2.1)
      exact q.2.2 q' m1 (m2.trans hj)
    · refine Or.inr (Or.inr (Or.inr (Or.inr (Or.inr (Or.inr (Or.inl ⟨q.1, by omega, fun s hm => ?_⟩))))))
      by_cases q3 : s < C 2
      · have h17 := (h 17 s (Or.inr (Or.inr (Or.inl ⟨Or.inr (Or.inr rfl), q3⟩)))).1
        rw [h17]
        exact q.2.2 s (hs s hm q3)
      · exact hb s hm q3 j q.2.1
    · exact Or.inr (Or.inr (Or.inr (Or.inr (Or.inr (Or.inr (Or.inr (Or.inl ⟨q.1, by omega⟩)))))))
    · exact Or.inr (Or.inr (Or.inr (Or.inr (Or.inr (Or.inr (Or.inr (Or.inr ⟨q.1, by omega⟩)))))))
  exact ⟨hg.1.trans e.1, hg.2.trans e.2⟩
section JT
variable {kd wr nm : Nat → Nat} {vv : Nat → Int64} {m z : Nat} {gA gM : Wd}
def hdM : List Nat → Int32
  | [] => -1
  | s :: _ => Int32.ofNat s
/-- the reference's SCOPES that are not closed -/
def UPM (C2 : Nat) (w : Wd) : List Nat → Prop
  | [] => True
  | s :: r => gi w 14 s = hdM r ∧ s < C2 ∧ UPM C2 w r
/-- the reference's SCOPES -/
def RSC (nm : Nat → Nat) (vv : Nat → Int64) (C : Nat → Nat) (TK : Nat → Nat) (SL : Nat → List Nat) (stk : List Nat) (w : Wd) : Prop :=
  gi w 0 28 = Int32.ofNat (C 2) ∧ gi w 0 42 = Int32.ofNat (C 1) ∧ UPM (C 2) w stk ∧ (∀ s, s < C 2 → LNM w (gi w 16 s) (SL s)) ∧ ∀ i, i < C 1 → gl w 18 i = vv (nm (TK i))
/-- the procedures that are not closed: procedure, slot of the class, slots of the reference -/
def NST (C : Nat → Nat) (wA wM : Wd) : PRL → Prop
  | [] => True
  | (p, sg, q) :: r => gi wA 36 r.length = Int32.ofNat sg ∧ gi wM 35 p = Int32.ofNat q ∧ (∃ n, gi wA 38 r.length = Int32.ofNat n ∧ gi wM 34 p = Int32.ofNat n ∧ n ≤ C 1) ∧ gi wM 30 p = Int32.ofNat r.length ∧ p < C 4 ∧ gi wM 37 p = (match r with | [] => -1 | y :: _ => Int32.ofNat y.1) ∧ (∀ y ∈ r, y.1 < p) ∧ sg ≤ 6 + 8 * C 1 + C 3 + C 0 ∧ q ≤ 1 + 8 * C 1 + 2 * C 3 ∧ NST C wA wM r
/-- a symbol, on both sides -/
def SYM (kd : Nat → Nat) (m : Nat) (C : Nat → Nat) (TK : Nat → Nat) (wA wM : Wd) (i : Nat) : Prop :=
  TK i < m ∧ kd (TK i) = 2 ∧ gi wA 21 (i + 1) = Int32.ofNat (TK i) ∧ gi wM 22 i = Int32.ofNat (TK i) ∧ gi wA 25 (TK i) = Int32.ofNat (i + 1) ∧ gi wA 15 (i + 1) = gi wM 20 i ∧ (∃ ty, ty ≤ 2 ∧ gi wM 20 i = Int32.ofNat ty) ∧
  (∃ p l, gi wM 23 i = Int32.ofNat p ∧ p < C 4 ∧ gi wA 17 (i + 1) = Int32.ofNat l ∧ gi wM 30 p = Int32.ofNat l) ∧
  ((gi wM 19 i = 1 ∧ gi wA 14 (i + 1) = 1 ∧ gi wM 20 i ≠ 0 ∧ (gi wM 27 i = 0 ∧ gi wA 16 (i + 1) = 0 ∨ gi wM 27 i = 1 ∧ gi wA 16 (i + 1) = 1 ∧ ∃ o, o < C 5 ∧ gi wA 18 (i + 1) = Int32.ofNat o ∧ gi wM 26 i = Int32.ofNat o))
  ∨ (gi wM 19 i = 2 ∧ gi wA 14 (i + 1) = 2 ∧ gi wA 16 (i + 1) = 0 ∧ gi wM 20 i ≠ 0 ∧ ∃ b, 1 ≤ b ∧ b ≤ 3 ∧ gi wA 19 (i + 1) = Int32.ofNat b ∧ gi wM 24 i = Int32.ofNat b)
  ∨ (gi wM 19 i = 3 ∧ gi wA 14 (i + 1) = 3 ∧ gi wA 16 (i + 1) = 0 ∧ ∃ p nf ff, 1 ≤ p ∧ p < C 4 ∧ gi wM 24 i = Int32.ofNat p ∧ gi wM 29 p = Int32.ofNat i ∧ gi wM 31 p = Int32.ofNat nf ∧ gi wM 32 p = Int32.ofNat ff ∧ gi wA 19 (i + 1) = Int32.ofNat nf ∧ gi wA 20 (i + 1) = Int32.ofNat (ff + 1) ∧ i < ff ∧ ff + nf ≤ C 1)
  ∨ (gi wM 19 i = 4 ∧ gi wA 14 (i + 1) = 4 ∧ gi wA 16 (i + 1) = 0 ∧ gi wM 20 i = 0)
  ∨ (gi wM 19 i = 5 ∧ gi wA 14 (i + 1) = 5 ∧ gi wA 16 (i + 1) = 0 ∧ gi wM 20 i = 0)
  ∨ (gi wM 19 i = 6 ∧ gi wA 19 (i + 1) = 0 ∧ gi wA 14 (i + 1) = gi wM 24 i ∧ (∃ x, x ≤ 5 ∧ gi wM 24 i = Int32.ofNat x) ∧ (gi wM 28 i = 0 ∧ gi wA 16 (i + 1) = 3 ∨ gi wM 28 i = 1 ∧ gi wA 16 (i + 1) = 2 ∧ gi wM 24 i = 1) ∧ (gi wM 24 i = 1 ∨ gi wM 24 i = 2 → gi wM 20 i ≠ 0) ∧ (gi wM 24 i = 5 → gi wM 20 i = 0)))
/-- a fault is noted already, before x -/
def FLN (q : Int32 × Int32) (x : Nat) : Prop := q.1 ≠ 0 ∧ q.2.toInt < (x : Int)
/-- NAMES of a procedure, LABELS aside, among the first n symbols -/
def cntP (w : Wd) (p : Nat) : Nat → Nat
  | 0 => 0
  | n + 1 => cntP w p n + (if gi w 23 n = Int32.ofNat p ∧ gi w 19 n ≠ 4 then 1 else 0)
theorem cntP_le {w : Wd} {p : Nat} : ∀ n, cntP w p n ≤ n := by
  intro n
  induction n with
  | zero => exact Nat.le_refl _
  | succ n ih =>
    unfold cntP
    split <;> omega
theorem cntP_agr {u w : Wd} {p : Nat} : ∀ n, (∀ i, i < n → gi u 23 i = gi w 23 i ∧ gi u 19 i = gi w 19 i) → cntP u p n = cntP w p n := by
  intro n
  induction n with
  | zero => exact fun _ => rfl
  | succ n ih =>
    intro h
    unfold cntP
    rw [ih (fun i hi => h i (by omega)), (h n (by omega)).1, (h n (by omega)).2]
/-- where there are too many NAMES or formals, or a formal without SPEC, that is noted -/
def OVF (wr : Nat → Nat) (C : Nat → Nat) (us t : Nat) (SL : Nat → List Nat) (w : Wd) : Prop := (∀ p, (p < C 4 → gi w 34 p = Int32.ofNat (cntP w p (C 1)) ∧ (200 < cntP w p (C 1) → FLN (gi w 0 10, gi w 0 11) (wr t))) ∧ (C 4 ≤ p → p < 2000 → cntP w p (C 1) = 0)) ∧ (∀ i, i < us → gi w 19 i = 6 → gi w 24 i = 0 → FLN (gi w 0 10, gi w 0 11) (wr (gi w 22 i).toNatClampNeg + 1)) ∧ (∀ p nf, 1 ≤ p → p < C 4 → nf ≤ 5000 → gi w 31 p = Int32.ofNat nf → 8 < nf → gi w 0 10 ≠ 0) ∧ ∀ i, i < C 1 → (∀ s, i ∉ SL s) → FLN (gi w 0 10, gi w 0 11) (wr (gi w 22 i).toNatClampNeg + 1)
theorem FLN.big {q : Int32 × Int32} (h : q.1 ≠ 0) : FLN q 2147483648 := ⟨h, by have := q.2.toInt_lt; omega⟩
theorem FN_ne {q : Int32 × Int32} {num y : Int32} (hn : num ≠ 0) : (FN q num y).1 ≠ 0 := by
  unfold FN
  split
  · exact hn
  · split
    · exact hn
    · split
      · split
        · assumption
        · exact hn
      · assumption
theorem FLN.fn9 {q : Int32 × Int32} {num y : Int32} {x : Nat} (h : FLN q x) (hn : num ≠ 0) : FLN (FN q num y) x := by
  rcases q with ⟨q1, q2⟩
  obtain ⟨h1, h2⟩ := h
  dsimp only at h1 h2
  have e : FN (q1, q2) num y = if y < q2 then (num, y) else if y = q2 then (if q1 ≤ num then (q1, q2) else (num, y)) else (q1, q2) := if_neg h1
  rw [e]
  by_cases g1 : y < q2
  · rw [if_pos g1]
    rw [Int32.lt_iff_toInt_lt] at g1
    exact ⟨hn, by show y.toInt < (x : Int); omega⟩
  · rw [if_neg g1]
    by_cases g2 : y = q2
    · rw [if_pos g2]
      split
      · exact ⟨h1, h2⟩
      · subst g2; exact ⟨hn, h2⟩
    · rw [if_neg g2]; exact ⟨h1, h2⟩
theorem OVF.agr {wr C C' : Nat → Nat} {us t t' : Nat} {SL : Nat → List Nat} {u w : Wd} (h : OVF wr C us t SL w) (hus : us ≤ C 1) (h1 : C' 1 = C 1) (h4 : C' 4 = C 4) (ht : wr t ≤ wr t') (hs : ∀ k i, ((k = 23 ∨ k = 19 ∨ k = 22) ∧ i < C 1 ∨ k = 24 ∧ i < us ∨ (k = 31 ∨ k = 34) ∧ i < C 4) → gi u k i = gi w k i) (hf : ∀ x, FLN (gi w 0 10, gi w 0 11) x → FLN (gi u 0 10, gi u 0 11) x) : OVF wr C' us t' SL u := by
  have hc : ∀ p, cntP u p (C 1) = cntP w p (C 1) := fun p => cntP_agr _ (fun i hi => ⟨hs 23 i (by omega), hs 19 i (by omega)⟩)
  have hz : gi w 0 10 ≠ 0 → gi u 0 10 ≠ 0 := fun hz => (hf _ (FLN.big hz)).1
  unfold OVF
  rw [h1, h4]
  refine ⟨fun p => ⟨fun hp => ?_, fun hp hp2 => by rw [hc]; exact (h.1 p).2 hp hp2⟩, fun i hi g1 g2 => ?_, fun p nf g1 g2 g3 g4 g5 => ?_, fun i hi hn => by rw [hs 22 i (by omega)]; exact hf _ (h.2.2.2 i hi hn)⟩
  · obtain ⟨g1, g2⟩ := (h.1 p).1 hp
    rw [hc, hs 34 p (by omega)]
    refine ⟨g1, fun g => ?_⟩
    have := hf _ (g2 g)
    exact ⟨this.1, by have := this.2; omega⟩
  · rw [hs 19 i (by omega)] at g1
    rw [hs 24 i (by omega)] at g2
    rw [hs 22 i (by omega)]
    exact hf _ (h.2.1 i hi g1 g2)
  · rw [hs 31 p (by omega)] at g4
    exact hz (h.2.2.1 p nf g1 g2 g3 g4 g5)
/-- both are at TOKEN t, at DEPTH d; sl: right behind a declared NAME; us: up to where symbols are as they stay -/
def JL (kd wr nm : Nat → Nat) (vv : Nat → Int64) (m z : Nat) (gA gM : Wd) (sl us : Nat) (stk : List Nat) (prs : PRL) (C TK : Nat → Nat) (SL : Nat → List Nat) (t d : Nat) (wA wM : Wd) : Prop :=
  IN1 kd wr z wA t 0 (-1) ∧ SM kd wr m wM t d ∧ OFF PAA wA gA ∧ OFF PMM wM gM ∧ FAX wr (C 7) t (FLA wA) (FLM wM) ∧
  (C 0 ≤ 2 * t + 100 ∧ 2 * C 1 ≤ wr t + sl ∧ 3 * C 2 ≤ wr t ∧ 5 * C 3 ≤ wr t ∧ 9 * C 4 ≤ wr t + 9 ∧ C 5 ≤ C 1 ∧ us ≤ C 1 ∧ 1 ≤ C 4) ∧
  CSC (fun i => nm (TK i)) SL stk (C 2) (C 1) 0 wA ∧ RSC nm vv C TK SL stk wM ∧ gi wM 0 29 = hdM stk ∧
  (gi wM 0 23 = Int32.ofNat (C 0) ∧ gi wM 0 59 = Int32.ofNat (C 3) ∧ gi wM 0 53 = Int32.ofNat (C 4) ∧ gi wA 13 14 = Int32.ofNat (C 6) ∧ gi wM 0 54 = Int32.ofNat (C 5) ∧ gi wA 13 13 = Int32.ofNat (C 5) ∧ gi wA 13 12 = Int32.ofNat (C 1 + 1)) ∧
  (∀ i, i < us → SYM kd m C TK wA wM i) ∧ (∃ l, prs.length = l + 1 ∧ gi wA 34 5 = Int32.ofNat l ∧ l ≤ 41 ∧ ∃ p sg q r, prs = (p, sg, q) :: r ∧ gi wM 0 30 = Int32.ofNat p) ∧ NST C wA wM prs ∧ (∀ j, t ≤ j → j < z → gi wA 25 j = 0) ∧ OVF wr C us t SL wM
/-- the class alone, when it can't go on: b: SCOPES at most -/
def DI (kd wr nm : Nat → Nat) (z : Nat) (gA : Wd) (stk : List Nat) (fa : Int32) (b : Nat) (w : Wd) : Prop := IN1 kd wr z w (z - 1) 0 fa ∧ 0 ≤ fa ∧ OFF PAA w gA ∧ ∃ (TK : Nat → Nat) (SL : Nat → List Nat) (ns nsc : Nat), CSC (fun i => nm (TK i)) SL stk nsc ns 0 w ∧ nsc ≤ b
end JT
