/-! BOTH SIDES: what assignments need -/
section JT
variable {kd wr nm : Nat → Nat} {vv : Nat → Int64} {m z : Nat} {gA gM : Wd} {lv : Bool} {sl us B : Nat} {stk obl stkF : List Nat} {prs : PRL} {C TK : Nat → Nat} {SL : Nat → List Nat} {t d b : Nat} {fa : Int32} {wA wM : Wd} {γ α : Type} {wd : γ → Wd} {S : γ → α → Wd → Prop} {P : (Nat → Nat) → Nat → Wd → Wd → Prop}
theorem PSM_sm {k : Nat} {W : PWT} {sc : Int32} {lo n d s e cn : Nat} {w : Wd} (h : PSM kd w k W sc lo n d s e cn) : smX kd (xp kd k) d s = .inr e := by
  obtain ⟨evs, q, h1, _⟩ := h
  unfold smX
  rw [h1]
theorem PWR_xw {sc : Int32} {w : Wd} : ∀ (k : Nat) {lo n d s e cn : Nat}, PWR kd w sc k lo n d s e cn → xw kd k d s = .inr e := by
  intro k
  induction k with
  | zero => exact fun h => h.elim
  | succ k ih =>
    intro lo n d s e cn h
    show whX kd (prX kd (xw kd k)) (xw kd k) d s = .inr e
    unfold whX
    rcases h with ⟨h1, h2, _, _, _, _, c, y, v, e1, e2, cc, cy, cv, _, _, _, _, _, _, p1, p2, p3, p4, p5, _⟩ | ⟨h1, h2⟩
    · rw [if_pos h1, if_neg (by omega), ih p1]
      dsimp only
      rw [if_pos p2, PSM_sm p3]
      dsimp only
      rw [if_pos p4, ih p5]
    · rw [if_neg h1]
      exact PSM_sm h2
theorem last_eq {α : Type} {l : List α} {x y : α} (h : l ++ [x] = [y]) : x = y := by
  have := congrArg List.getLast? h
  simpa using this
/-- an EXPR is a place by its form, and by its node -/
theorem var_form {sc : Int32} {lo n d s e cn : Nat} {fA fM : Wd} (h : XPR kd sc lo n d s e cn fA fM) : ((gi fA 8 s = 1 ∨ gi fA 8 s = 2 ∨ gi fA 8 s = 3) ↔ (gi fM 7 n = 3 ∨ gi fM 7 n = 4)) ∧ (gi fM 7 n = 3 ∨ gi fM 7 n = 4 → gi fM 12 n = Int32.ofNat s) := by
  obtain ⟨hf, hp⟩ := h
  rcases hp with ⟨h1, h2, _, h7, _, _, c, y, v, e1, e2, cc, cy, cv, _, _, _, _, _, _, p1, p2, p3, p4, p5, _⟩ | ⟨h1, evs, q, hr, hpe⟩
  · have h8 : gi fA 8 s = 5 := (hf.2 h1 e1 e2 e (PWR_xw _ p1) (PSM_sm p3) (PWR_xw _ p5)).2.2.2.1
    rw [h8, h7]
    exact ⟨⟨fun h => absurd h (by decide), fun h => absurd h (by decide)⟩, fun h => absurd h (by decide)⟩
  · obtain ⟨_, g8, _⟩ := hf.1 h1 (e, evs) hr
    dsimp only at g8
    cases q with
    | zero => exact hpe.elim
    | succ q =>
      rcases hpe.2 with ⟨h7, _, _, _, x, y, sg, tk, s2, ex, ey, cx, cy, _, _, _, _, _, _, he, _⟩ | ⟨h7, _, _, _, x, sg, ex, cx, _, _, _, _, he, _⟩ | ⟨e', he, hpr⟩
      · rw [if_neg (fun h => by
          rw [he] at h
          have h0 : (2 : Nat) = 0 := congrArg Prod.fst (last_eq h)
          exact absurd h0 (by decide))] at g8
        rw [g8, h7]
        exact ⟨⟨fun h => absurd h (by decide), fun h => absurd h (by decide)⟩, fun h => absurd h (by decide)⟩
      · rw [if_neg (fun h => by
          rw [he] at h
          have h0 : (1 : Nat) = 0 := congrArg Prod.fst (last_eq h)
          exact absurd h0 (by decide))] at g8
        rw [g8, h7]
        exact ⟨⟨fun h => absurd h (by decide), fun h => absurd h (by decide)⟩, fun h => absurd h (by decide)⟩
      · rw [if_pos he] at g8
        obtain ⟨_, h12, _, _, hh⟩ := hpr
        refine ⟨?_, fun _ => h12⟩
        unfold fmX at g8
        rcases hh with ⟨h7, k1, _⟩ | ⟨h7, k1, _⟩ | ⟨h7, k1, _⟩ | ⟨h7, k1, k2, k3, _⟩ | ⟨c, xs, e1, hc, k1, _⟩
        · rw [if_neg (by omega), if_neg (by omega)] at g8
          rw [g8, h7]
          exact ⟨fun h => absurd h (by decide), fun h => absurd h (by decide)⟩
        · rw [if_neg (by omega), if_neg (by omega)] at g8
          rw [g8, h7]
          exact ⟨fun h => absurd h (by decide), fun h => absurd h (by decide)⟩
        · rw [if_pos k1] at g8
          rw [g8, h7]
          exact ⟨fun h => absurd h (by decide), fun h => absurd h (by decide)⟩
        · rw [if_neg (by omega), if_pos k1, if_neg k2, if_neg k3] at g8
          rw [g8, h7]
          exact ⟨fun _ => Or.inl rfl, fun _ => Or.inl rfl⟩
        · rcases hc with ⟨h7, k2, _⟩ | ⟨h7, k2, _⟩
          · rw [if_neg (by omega), if_pos k1, if_neg (by omega), if_pos k2] at g8
            rw [h7]
            refine ⟨fun _ => Or.inr rfl, fun _ => ?_⟩
            rw [g8]
            split
            · exact Or.inr (Or.inl rfl)
            · exact Or.inr (Or.inr rfl)
          · rw [if_neg (by omega), if_pos k1, if_pos k2] at g8
            rw [g8, h7]
            exact ⟨fun h => absurd h (by decide), fun h => absurd h (by decide)⟩
theorem ofle {x y : Nat} (h : x ≤ y) (hy : y < 2147483648) : Int32.ofNat x ≤ Int32.ofNat y := (le_iN (by omega) hy).mpr h
theorem i32_nlt {a b : Int32} (h : a ≤ b) : ¬ b < a := by
  rw [Int32.le_iff_toInt_le] at h
  rw [Int32.lt_iff_toInt_lt]
  omega
theorem i32_lelt {a b c : Int32} (h : a < b) (g : b ≤ c) : a < c := by
  rw [Int32.lt_iff_toInt_lt] at h ⊢
  rw [Int32.le_iff_toInt_le] at g
  omega
theorem FN5_late {p : Int32 × Int32} {x y : Int32} (h : x ≤ y) : FN (FN p 5 x) 5 y = FN p 5 x ∧ (FN p 5 x).1 ≠ 0 := by
  have hb : FN ((5 : Int32), x) 5 y = (5, x) := by
    unfold FN
    dsimp only
    rw [if_neg (by decide), if_neg (i32_nlt h), if_pos (show (5 : Int32) ≤ 5 by decide)]
    split <;> rfl
  rcases p with ⟨p1, p2⟩
  have e : FN (p1, p2) 5 x = if p1 = 0 then (5, x) else if x < p2 then (5, x) else if x = p2 then (if p1 ≤ 5 then (p1, p2) else (5, x)) else (p1, p2) := rfl
  by_cases q0 : p1 = 0
  · rw [e, if_pos q0]; exact ⟨hb, show (5 : Int32) ≠ 0 by decide⟩
  · rw [e, if_neg q0]
    have e2 : FN (p1, p2) 5 y = if y < p2 then (5, y) else if y = p2 then (if p1 ≤ 5 then (p1, p2) else (5, y)) else (p1, p2) := if_neg q0
    by_cases q1 : x < p2
    · rw [if_pos q1]; exact ⟨hb, show (5 : Int32) ≠ 0 by decide⟩
    · rw [if_neg q1]
      by_cases q2 : x = p2
      · rw [if_pos q2]
        by_cases q3 : p1 ≤ 5
        · rw [if_pos q3, e2, if_neg (by rw [← q2]; exact i32_nlt h), if_pos q3]
          refine ⟨?_, q0⟩
          split <;> rfl
        · rw [if_neg q3]; exact ⟨hb, show (5 : Int32) ≠ 0 by decide⟩
      · have h2 := i32_lelt (i32_tri q1 q2) h
        rw [if_neg q2, e2, if_neg (i32_asym h2).1, if_neg (i32_asym h2).2]
        exact ⟨rfl, q0⟩
theorem FAU.late5 {p q : Int32 × Int32} {x y : Nat} (h : FAU (FN p 5 (Int32.ofNat x)) q) (hx : x ≤ y) (hy : y ≤ 8192) : FAU (FN p 5 (Int32.ofNat x)) (FN q 5 (Int32.ofNat y)) := by
  obtain ⟨h1, h2⟩ := FN5_late (p := p) (ofle hx (by omega))
  have hq : q = FN p 5 (Int32.ofNat x) := Prod.ext h.1.symm (h.2 h2).symm
  rw [hq, h1]
  exact ⟨rfl, fun _ => rfl⟩
theorem FLN.fn3 {q : Int32 × Int32} {num : Int32} {x y : Nat} (h : FLN q y) (hn : num ≠ 0) : FLN (FN q num (Int32.ofNat x)) y := by
  rcases q with ⟨q1, q2⟩
  obtain ⟨h1, h2⟩ := h
  dsimp only at h1 h2
  have e : FN (q1, q2) num (Int32.ofNat x) = if Int32.ofNat x < q2 then (num, Int32.ofNat x) else if Int32.ofNat x = q2 then (if q1 ≤ num then (q1, q2) else (num, Int32.ofNat x)) else (q1, q2) := if_neg h1
  rw [e]
  by_cases g1 : Int32.ofNat x < q2
  · rw [if_pos g1]
    rw [Int32.lt_iff_toInt_lt] at g1
    exact ⟨hn, by show (Int32.ofNat x).toInt < (y : Int); omega⟩
  · rw [if_neg g1]
    by_cases g2 : Int32.ofNat x = q2
    · rw [if_pos g2]
      split
      · exact ⟨h1, h2⟩
      · exact ⟨hn, by show (Int32.ofNat x).toInt < (y : Int); rw [g2]; exact h2⟩
    · rw [if_neg g2]; exact ⟨h1, h2⟩
/-- a fault the reference notes early -/
theorem J.found5 (hT : TOKS kd wr nm vv m z gA gM) (hst : STJ kd wr nm vv m z gA gM lv sl us stk prs C TK SL t d b fa wA wM) {tk : Nat} (htk : tk < t) (h7 : lv = true → C 7 ≤ tk) {rA : Option γ} {KM : Wd → Option (Option α × Wd)} {v : Int32} (hv : lv = true → v = Int32.ofNat tk)
    (H : ∀ uM, STJ kd wr nm vv m z gA gM lv sl us stk prs (upC C 7 (if C 7 = 0 then tk + 1 else C 7)) TK SL t d b fa wA uM → (lv = true → OFF (fun k j => k = 0 ∧ (j = 10 ∨ j = 11)) uM wM ∧ EXF wM uM) → GLJ kd wr nm z gA gM wd lv stkF fa B rA (KM uM) S) : GLJ kd wr nm z gA gM wd lv stkF fa B rA (bn (fX12_found 5 v wM) KM) S := by
  cases lv
  · exact ⟨fun _ => (H wM (hst.dd rfl) (fun h => absurd h (by decide))).1 rfl, fun h => absurd h (by decide)⟩
  · obtain ⟨hfa, hJ⟩ := hst.jl rfl
    have htm : t ≤ m := hJ.2.1.2.1
    obtain ⟨u, e1, e2, e3⟩ := found_ok (num := 5) hJ.2.1 (a := tk) (by omega)
    rw [hv rfl, e1]
    show GLJ kd wr nm z gA gM wd true stkF fa B rA (KM u) S
    obtain ⟨i1, i2, i3, i4, i5, i6, i7, ⟨r1, r2, r3, r4, r5⟩, i9, ⟨c1, c2, c3, c4, c5, c6, c7⟩, i11, ⟨l, l1, l2, l3, p, sg, q, r, l4, l5⟩, i13, i14, i15⟩ := hJ
    have hw9 : wr tk ≤ 8192 := hT.1 tk
    have fM : ∀ k j, ¬ (k = 0 ∧ (j = 10 ∨ j = 11)) → gi u k j = gi wM k j := fun k j h => (e3 k j h).1
    have hC : LEC C (upC C 7 (if C 7 = 0 then tk + 1 else C 7)) := fun i => by
      by_cases q7 : i = 7
      · rw [q7, upC_s]
        split <;> omega
      · rw [upC_n q7]; exact Nat.le_refl _
    have hs2 : SM kd wr m u t d := by
      obtain ⟨⟨a1, a2, a3, a4, a5⟩, a6, a7, a8, a9⟩ := i2
      exact ⟨⟨a1, a2, a3, a4, fun i hi => by rw [fM 2 i (by omega), fM 3 i (by omega)]; exact a5 i hi⟩, a6, a7, by rw [fM 0 7 (by omega)]; exact a8, by rw [fM 0 8 (by omega)]; exact a9⟩
    refine H u (Or.inl ⟨rfl, hfa, i1, hs2, i3, OFF.tr (e3.mono (fun k j hp => by unfold PMM; omega)) i4, ?_, i6, i7, ?_, by rw [fM 0 29 (by omega)]; exact i9, ?_, ?_, ⟨l, l1, l2, l3, p, sg, q, r, l4, by rw [fM 0 30 (by omega)]; exact l5⟩, ?_, i14, ?_⟩) (fun _ => ⟨e3, EXF.mk e3 (fun k j hk => by omega) fun _ => by
      show (FLM u).1 ≠ 0
      rw [e2]
      exact FN_ne (by decide)⟩)
    · rw [e2, upC_s]
      obtain ⟨j1, j2⟩ := i5
      by_cases q7 : C 7 = 0
      · rw [if_pos q7] at j2 ⊢
        refine ⟨by omega, ?_⟩
        rw [if_neg (by omega)]
        exact j2.fn
      · rw [if_neg q7] at j2 ⊢
        refine ⟨j1, ?_⟩
        rw [if_neg q7]
        have h7' := h7 rfl
        exact FAU.late5 j2 (hT.mono (by omega) (by omega)) hw9
    · refine ⟨by rw [fM 0 28 (by omega)]; exact r1, by rw [fM 0 42 (by omega)]; exact r2, r3.agr (Nat.le_refl _) (fun s hs => fM 14 s (by omega)), fun s hs => ?_, fun i hi => ?_⟩
      · rw [fM 16 s (by omega)]
        exact (r4 s hs).agr (fun i _ => fM 21 i (by omega))
      · rw [(e3 18 i (by omega)).2]
        exact r5 i hi
    · rw [fM 0 23 (by omega), fM 0 59 (by omega), fM 0 53 (by omega), fM 0 54 (by omega)]
      exact ⟨c1, c2, c3, c4, c5, c6, c7⟩
    · exact fun i hi => (i11 i hi).agr hC (fun k hk => rfl) rfl (fun k' hk'' => fM k' _ (by omega)) (fun p _ => fM 30 p (by omega)) (fun p _ _ => ⟨fM 29 p (by omega), fM 31 p (by omega), fM 32 p (by omega)⟩)
    · exact i13.agr hC (fun l _ => ⟨rfl, rfl⟩) (fun p _ => ⟨fM 35 p (by omega), fM 34 p (by omega), fM 30 p (by omega), fM 37 p (by omega)⟩)
    · exact i15.agr i6.2.2.2.2.2.2.1 (upC_n (by omega)) (upC_n (by omega)) (Nat.le_refl _) (fun k' i' hk' => fM k' i' (by omega)) (fun x hx => by
        show FLN (FLM u) x
        rw [e2]
        exact FLN.fn3 hx (by decide))
end JT
