/-! BOTH SIDES: slots, and the elements of a for -/
section JT
variable {kd wr nm : Nat → Nat} {vv : Nat → Int64} {m z : Nat} {gA gM : Wd} {lv : Bool} {sl us B : Nat} {stk obl stkF : List Nat} {prs : PRL} {C TK : Nat → Nat} {SL : Nat → List Nat} {t d b : Nat} {fa : Int32} {wA wM : Wd} {γ α : Type} {wd : γ → Wd} {S : γ → α → Wd → Prop} {P : (Nat → Nat) → Nat → Wd → Wd → Prop}
/-- slots of a procedure of the class -/
def PS6 (k j : Nat) : Prop := k = 36 ∨ k = 37 ∨ k = 39
/-- and the words of a SCOPE -/
def PS7 (k j : Nat) : Prop := k = 33 ∨ k = 36 ∨ k = 37 ∨ k = 39
theorem PS6.p7 : ∀ k j, PS6 k j → PS7 k j := fun k j h => by unfold PS6 at h; unfold PS7; omega
theorem STJ.slot7 {p sg q sg' : Nat} {r : PRL} (h : STJ kd wr nm vv m z gA gM lv sl us stk ((p, sg, q) :: r) C TK SL t d b fa wA wM) {uA : Wd} (hO : OFF PS7 uA wA) (hl : lv = true → (∀ l, l < r.length → gi uA 36 l = gi wA 36 l) ∧ gi uA 36 r.length = Int32.ofNat sg' ∧ sg' ≤ 6 + 8 * C 1 + C 3 + C 0) : STJ kd wr nm vv m z gA gM lv sl us stk ((p, sg', q) :: r) C TK SL t d b fa uA wM := by
  have fA : ∀ k j, ¬ (k = 33 ∨ k = 36 ∨ k = 37 ∨ k = 39) → gi uA k j = gi wA k j := fun k j hk => (hO k j hk).1
  rcases h with ⟨hlv, hfa, hJ⟩ | ⟨hlv, ht, hin, h0, hP, TK', SL', ns, nsc, hc, hb⟩
  · obtain ⟨i1, i2, i3, i4, i5, i6, i7, i8, i9, ⟨c1, c2, c3, c4, c5, c6, c7⟩, i11, ⟨l, l1, l2, l3, p', sg'', q', r', l4, l5⟩, ⟨s1, s2, ⟨n, s3, s4, s5⟩, s6, s7, s8, s9, s10, s11, s12⟩, i14, i15⟩ := hJ
    obtain ⟨h1, h2, h3⟩ := hl hlv
    refine Or.inl ⟨hlv, hfa, i1.off hO (fun k j hk => by unfold PS7 at hk; omega), i2, OFF.tr (hO.mono fun k j hk => by unfold PS7 at hk; unfold PAA; omega) i3, i4, ?_, i6, i7.agr (fun k j hk => fA k j (by unfold PSC at hk; omega)), i8, i9, ⟨c1, c2, c3, by rw [fA 13 14 (by omega)]; exact c4, c5, by rw [fA 13 13 (by omega)]; exact c6, by rw [fA 13 12 (by omega)]; exact c7⟩, fun i hi => (i11 i hi).agr LEC.rf (fun k hk => fA k _ (by omega)) (fA 25 _ (by omega)) (fun _ _ => rfl) (fun _ _ => rfl) (fun _ _ _ => ⟨rfl, rfl, rfl⟩), ⟨l, l1, by rw [fA 34 5 (by omega)]; exact l2, l3, p, sg', q, r, rfl, ?_⟩, ⟨h2, s2, ⟨n, by rw [fA 38 _ (by omega)]; exact s3, s4, s5⟩, s6, s7, s8, s9, h3, s11, s12.agr LEC.rf (fun l' hl' => ⟨h1 l' hl', fA 38 l' (by omega)⟩) (fun _ _ => ⟨rfl, rfl, rfl, rfl⟩)⟩, fun j hj hz => by rw [fA 25 j (by omega)]; exact i14 j hj hz, i15⟩
    · have e1 : FLA uA = FLA wA := by
        unfold FLA
        rw [fA 3 6 (by omega), fA 3 7 (by omega)]
      rw [e1]; exact i5
    · obtain ⟨e1, e2⟩ := List.cons.inj l4
      rw [l5, ← (Prod.mk.inj e1).1]
  · refine Or.inr ⟨hlv, ht, hin.off hO (fun k j hk => by unfold PS7 at hk; omega), h0, OFF.tr (hO.mono fun k j hk => by unfold PS7 at hk; unfold PAA; omega) hP, TK', SL', ns, nsc, hc.agr (fun k j hk => fA k j (by unfold PSC at hk; omega)), hb⟩
theorem STJ.slot {p sg q sg' : Nat} {r : PRL} (h : STJ kd wr nm vv m z gA gM lv sl us stk ((p, sg, q) :: r) C TK SL t d b fa wA wM) {uA : Wd} (hO : OFF PS6 uA wA) (hl : lv = true → (∀ l, l < r.length → gi uA 36 l = gi wA 36 l) ∧ gi uA 36 r.length = Int32.ofNat sg' ∧ sg' ≤ 6 + 8 * C 1 + C 3 + C 0) : STJ kd wr nm vv m z gA gM lv sl us stk ((p, sg', q) :: r) C TK SL t d b fa uA wM := h.slot7 (hO.mono PS6.p7) hl
theorem STEP.slot {uA : Wd} (hO : OFF PS6 uA wA) : STEP C t stk prs obl wA wM C t uA wM := ⟨LEC.rf, Nat.le_refl _, fun k j hk => (hO k j (by unfold PS6; omega)).1, fun _ _ _ => ⟨rfl, rfl⟩, EXF.rf⟩
theorem e_take5 {a : Int32} {w : Wd} : OFF PS6 (fX5_take a w).2 w := OFF.tr (OFF.rsi (fun _ => Or.inr (Or.inl rfl))) (OFF.rsi (fun _ => Or.inl rfl))
theorem e_give {a : Int32} {w : Wd} : OFF PS6 (fX5_giveBack a w) w := OFF.rsi (fun _ => Or.inl rfl)
theorem JL.top {p sg q : Nat} {r : PRL} (h : JL kd wr nm vv m z gA gM sl us stk ((p, sg, q) :: r) C TK SL t d wA wM) : gi wA 34 5 = Int32.ofNat r.length ∧ r.length ≤ 41 ∧ gi wA 36 r.length = Int32.ofNat sg ∧ sg ≤ 6 + 8 * C 1 + C 3 + C 0 := by
  obtain ⟨i1, i2, i3, i4, i5, i6, i7, i8, i9, c, i11, ⟨l, l1, l2, l3, _⟩, ⟨s1, s2, s3, s6, s7, s8, s9, s10, s11, s12⟩, i14, i15⟩ := h
  have e : l = r.length := by
    rw [List.length_cons] at l1
    omega
  rw [← e]
  exact ⟨l2, l3, by rw [e]; exact s1, s10⟩
/-- slots taken -/
theorem J.take5 {p sg q a : Nat} {r : PRL} (h : STJ kd wr nm vv m z gA gM lv sl us stk ((p, sg, q) :: r) C TK SL t d b fa wA wM) (ha : lv = true → sg + a ≤ 6 + 8 * C 1 + C 3 + C 0) : STJ kd wr nm vv m z gA gM lv sl us stk ((p, sg + a, q) :: r) C TK SL t d b fa (fX5_take (Int32.ofNat a) wA).2 wM ∧ (lv = true → (fX5_take (Int32.ofNat a) wA).1 = Int32.ofNat sg) := by
  refine ⟨h.slot e_take5 (fun hl => ?_), fun hl => ?_⟩
  · obtain ⟨h1, h2, h3, h4⟩ := (h.jl hl).2.top
    have e : gi (fX5_take (Int32.ofNat a) wA).2 36 r.length = Int32.ofNat (sg + a) ∧ ∀ l, l < r.length → gi (fX5_take (Int32.ofNat a) wA).2 36 l = gi wA 36 l := by
      unfold fX5_take fX5_slot
      rw [h1, rgi_iN (n := r.length) (m := 64) (by omega) (by omega), h3]
      dsimp only [lt]
      rw [add_iN, rsi_iN (n := r.length) (m := 64) (by omega) (by omega)]
      have h5 : gi (si wA 36 r.length (Int32.ofNat (sg + a))) 34 5 = Int32.ofNat r.length := by rw [gi_si1 (by omega)]; exact h1
      have hq : ∀ (w : Wd) v l, gi (rsi w 37 64 (Int32.ofNat r.length) v) 36 l = gi w 36 l := fun w v l => by
        rw [rsi_iN (n := r.length) (m := 64) (by omega) (by omega), gi_si1 (by omega)]
      rw [h5]
      exact ⟨by rw [hq, gi_si0], fun l hl => by rw [hq, gi_si1 (by omega)]⟩
    exact ⟨e.2, e.1, ha hl⟩
  · obtain ⟨h1, h2, h3, h4⟩ := (h.jl hl).2.top
    show fX5_slot wA = _
    unfold fX5_slot
    rw [h1, rgi_iN (n := r.length) (m := 64) (by omega) (by omega), h3]
    rfl
theorem e_keepAt {a : Int32} {w : Wd} : OFF PS6 (fX5_keepAt a w) w := OFF.rsi (fun _ => Or.inr (Or.inr rfl))
theorem J.keep {p sg q : Nat} {r : PRL} {v : Int32} (h : STJ kd wr nm vv m z gA gM lv sl us stk ((p, sg, q) :: r) C TK SL t d b fa wA wM) : STJ kd wr nm vv m z gA gM lv sl us stk ((p, sg, q) :: r) C TK SL t d b fa (fX5_keepAt v wA) wM := by
  have e : ∀ l, gi (fX5_keepAt v wA) 36 l = gi wA 36 l := fun l => ((OFF.rsi (P := fun k _ => k = 39) (fun _ => rfl) : OFF _ (fX5_keepAt v wA) wA) 36 l (by omega)).1
  refine h.slot e_keepAt (fun hl => ?_)
  obtain ⟨h1, h2, h3, h4⟩ := (h.jl hl).2.top
  exact ⟨fun l _ => e l, (e _).trans h3, h4⟩
theorem J.give {p sg q sg' : Nat} {r : PRL} {v : Int32} (h : STJ kd wr nm vv m z gA gM lv sl us stk ((p, sg, q) :: r) C TK SL t d b fa wA wM) (hv : lv = true → v = Int32.ofNat sg' ∧ sg' ≤ sg) : STJ kd wr nm vv m z gA gM lv sl us stk ((p, sg', q) :: r) C TK SL t d b fa (fX5_giveBack v wA) wM := by
  refine h.slot e_give (fun hl => ?_)
  obtain ⟨h1, h2, h3, h4⟩ := (h.jl hl).2.top
  obtain ⟨g1, g2⟩ := hv hl
  unfold fX5_giveBack
  rw [h1, ltq, g1, rsi_iN (n := r.length) (m := 64) (by omega) (by omega)]
  exact ⟨fun l hl => gi_si1 (by omega), gi_si0 _ _ _ _, by omega⟩
/-- places all set -/
theorem pa_all {fo : Nat} : ∀ (n : Nat) (a : Int32) (j : Nat) (w : Wd), 36872 ≤ j + n → j ≤ 36872 → ∃ u, oX0_patchAll_4 (fo + n + 1) a (Int32.ofNat j) w = some u ∧ OFF PRE u w := by
  intro n
  induction n with
  | zero =>
    intro a j w h1 h2
    show ∃ u, (if a = 0 then (some w) else (if 36872 ≤ Int32.ofNat j then (some w) else _)) = some u ∧ _
    by_cases q : a = 0
    · rw [if_pos q]; exact ⟨w, rfl, OFF.rf⟩
    · rw [if_neg q, if_pos (show (36872 : Int32) ≤ Int32.ofNat j from ofle (x := 36872) (by omega) (by omega))]; exact ⟨w, rfl, OFF.rf⟩
  | succ n ih =>
    intro a j w h1 h2
    show ∃ u, (if a = 0 then (some w) else (if 36872 ≤ Int32.ofNat j then (some w) else oX0_patchAll_4 (fo + n + 1) (fX0_patch a w).1 (Int32.ofNat j + 1) (fX0_patch a w).2)) = some u ∧ _
    by_cases q : a = 0
    · rw [if_pos q]; exact ⟨w, rfl, OFF.rf⟩
    · rw [if_neg q]
      by_cases q2 : 36872 ≤ j
      · rw [if_pos (show (36872 : Int32) ≤ Int32.ofNat j from ofle (x := 36872) q2 (by omega))]; exact ⟨w, rfl, OFF.rf⟩
      · rw [if_neg (show ¬ ((36872 : Int32) ≤ Int32.ofNat j) from nle_iN (a := 36872) (b := j) (by omega) (by omega)), ad1_iN j]
        obtain ⟨u, e, o⟩ := ih (fX0_patch a w).1 (j + 1) (fX0_patch a w).2 (by omega) (by omega)
        exact ⟨u, e, OFF.tr o e_patch⟩
theorem patchAll_ok {a : Int32} {w : Wd} : ∃ u, fX0_patchAll a w = some u ∧ OFF PRE u w := by
  obtain ⟨fo, hfo⟩ := FU_ge (k := 36873) (by omega)
  unfold fX0_patchAll
  rw [hfo]
  exact pa_all (fo := fo) 36872 a 0 w (by omega) (by omega)
/-- a chain that goes on -/
def CHK (kd : Nat → Nat) (c : Nat) (W : Nat → Nat → Nat → Nat → Nat → Prop) (lo0 s0 : Nat) (xs : List Nat) (xl lo t : Nat) (fM : Wd) : Prop := ∀ y rest e lo', (xs ≠ [] → gi fM 11 xl = Int32.ofNat y) → CHNW kd fM c W (y :: rest) lo t e lo' → CHNW kd fM c W (xs ++ y :: rest) lo0 s0 e lo'
theorem CHK.nil {c : Nat} {W : Nat → Nat → Nat → Nat → Nat → Prop} {lo0 s0 xl : Nat} {fM : Wd} : CHK kd c W lo0 s0 [] xl lo0 s0 fM := fun _ _ _ _ _ h => h
theorem CHK.end {c : Nat} {W : Nat → Nat → Nat → Nat → Nat → Prop} {lo0 s0 xl lo t y e lo' : Nat} {xs : List Nat} {fM : Wd} (h : CHK kd c W lo0 s0 xs xl lo t fM) (hx : xs ≠ [] → gi fM 11 xl = Int32.ofNat y) (hw : W lo y t e lo') (hy : gi fM 11 y = -1) : CHNW kd fM c W (xs ++ [y]) lo0 s0 e lo' := h y [] e lo' hx ⟨hw, hy⟩
theorem CHK.next {c : Nat} {W : Nat → Nat → Nat → Nat → Nat → Prop} {lo0 s0 xl lo t y e lo' : Nat} {xs : List Nat} {fM : Wd} (h : CHK kd c W lo0 s0 xs xl lo t fM) (hx : xs ≠ [] → gi fM 11 xl = Int32.ofNat y) (hw : W lo y t e lo') (hc : kd e = c) : CHK kd c W lo0 s0 (xs ++ [y]) y lo' (e + 1) fM := fun y2 rest e2 lo2 hx2 hr => by
  have := h y (y2 :: rest) e2 lo2 hx ⟨e, lo', hw, hc, hx2 (by simp), hr⟩
  rw [List.append_assoc]
  exact this
end JT
