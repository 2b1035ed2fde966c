/-! BOTH SIDES: places of ARRAYS -/
section JT
variable {kd wr nm : Nat → Nat} {vv : Nat → Int64} {m z : Nat} {gA gM : Wd} {lv : Bool} {sl us B : Nat} {stk obl stkF : List Nat} {prs : PRL} {C TK : Nat → Nat} {SL : Nat → List Nat} {t d b : Nat} {fa : Int32} {wA wM : Wd} {γ α : Type} {wd : γ → Wd} {S : γ → α → Wd → Prop} {P : (Nat → Nat) → Nat → Wd → Wd → Prop}
def PDD (k j : Nat) : Prop := PAD k j ∨ PS6 k j ∨ PRE k j
theorem STJ.deadO {C' TK' : Nat → Nat} {SL' : Nat → List Nat} {sl' us' d' : Nat} {prs' : PRL} {uA uM : Wd} (h : STJ kd wr nm vv m z gA gM lv sl us stk prs C TK SL t d b fa wA wM) (hl : lv = false) (hO : OFF PDD uA wA) : STJ kd wr nm vv m z gA gM lv sl' us' stk prs' C' TK' SL' t d' b fa uA uM := by
  rcases h with ⟨hlv, _⟩ | ⟨hlv, ht, hin, h0, hP, TK', SL', ns, nsc, hc, hb⟩
  · rw [hl] at hlv; exact absurd hlv (by decide)
  · exact Or.inr ⟨hlv, ht, hin.off hO (fun k j hk => by unfold PDD PAD PS6 PRE at hk; omega), h0, OFF.tr (hO.mono fun k j hk => by unfold PDD PAD PS6 PRE at hk; unfold PAA; omega) hP, TK', SL', ns, nsc, hc.agr (fun k j hk => (hO k j (by unfold PSC at hk; unfold PDD PAD PS6 PRE; omega)).1), hb⟩
/-- what the class notes of one of ARRAYS -/
def arW (x4 a5 : Int32) (w : Wd) : Wd := (fX0_put 30 a5 (fX8_slot x4 (fX8_place x4 (fX5_take (2 + (2 * a5)) (fX8_bound x4 a5 w)).1 (fX5_take (2 + (2 * a5)) (fX8_bound x4 a5 w)).2)) (fX8_place x4 (fX5_take (2 + (2 * a5)) (fX8_bound x4 a5 w)).1 (fX5_take (2 + (2 * a5)) (fX8_bound x4 a5 w)).2)).2
theorem e_arW {x4 a5 : Int32} {w : Wd} : OFF PDD (arW x4 a5 w) w := by
  unfold arW
  have h1 : OFF PDD (fX8_bound x4 a5 w) w := (OFF.rsi (P := PAD) (fun _ => by unfold PAD; omega) : OFF PAD (fX8_bound x4 a5 w) w).mono fun k j h => Or.inl h
  generalize fX8_bound x4 a5 w = w1 at h1 ⊢
  have h2 : OFF PDD (fX5_take (2 + (2 * a5)) w1).2 w1 := e_take5.mono fun k j h => Or.inr (Or.inl h)
  generalize fX5_take (2 + (2 * a5)) w1 = p2 at h2 ⊢
  have h3 : OFF PDD (fX8_place x4 p2.1 p2.2) p2.2 := (OFF.rsi (P := PAD) (fun _ => by unfold PAD; omega) : OFF PAD (fX8_place x4 p2.1 p2.2) p2.2).mono fun k j h => Or.inl h
  generalize fX8_place x4 p2.1 p2.2 = w3 at h3 ⊢
  have h4 : OFF PDD (fX0_put 30 a5 (fX8_slot x4 w3) w3).2 w3 := e_put.mono fun k j h => Or.inr (Or.inr h)
  exact OFF.tr h4 (OFF.tr h3 (OFF.tr h2 h1))
theorem a_68 {n i jn : Nat} {a3 a5 : Int32} {w : Wd} (h3 : gi w 3 5 = 0) (hi : i < jn) (hj : jn ≤ 9000) : oX4_arrays_68 (n + 1) a3 (Int32.ofNat jn) a5 (Int32.ofNat i) w = oX4_arrays_68 n a3 (Int32.ofNat jn) a5 (Int32.ofNat (i + 1)) (arW (fX8_declaredAt (a3 + (2 * Int32.ofNat i)) w) a5 w) := by
  show fX4_arrays_68 (oX4_arrays_68 n) a3 (Int32.ofNat jn) a5 (Int32.ofNat i) w = _
  unfold fX4_arrays_68
  rw [if_neg (nle_iN hi (by omega)), ltq, if_pos h3, ltq, lt2q, ltq]
  unfold fX4_arrays_133
  rw [ltq, lt2q, ltq, ad1_iN i]
  rfl
theorem a_68e {n i jn : Nat} {a3 a5 : Int32} {w : Wd} (hi : jn ≤ i) (hj : i ≤ 9000) : oX4_arrays_68 (n + 1) a3 (Int32.ofNat jn) a5 (Int32.ofNat i) w = some (fX0_put_ 27 (2 * a5) w).2 := by
  show fX4_arrays_68 (oX4_arrays_68 n) a3 (Int32.ofNat jn) a5 (Int32.ofNat i) w = _
  unfold fX4_arrays_68
  rw [if_pos (ofle hi (by omega))]
  rfl
theorem ar_dead {fo jn : Nat} {a3 a5 : Int32} (hj : jn ≤ 9000) : ∀ (n i : Nat) (w : Wd), jn ≤ i + n → i ≤ jn → gi w 3 5 = 0 → ∃ u, oX4_arrays_68 (fo + n + 1) a3 (Int32.ofNat jn) a5 (Int32.ofNat i) w = some u ∧ OFF PDD u w := by
  intro n
  induction n with
  | zero =>
    intro i w h1 h2 h3
    rw [a_68e (by omega) (by omega)]
    exact ⟨_, rfl, e_put_.mono fun k j h => Or.inr (Or.inr h)⟩
  | succ n ih =>
    intro i w h1 h2 h3
    by_cases q : i < jn
    · rw [show fo + (n + 1) + 1 = (fo + n + 1) + 1 by omega, a_68 h3 q hj]
      obtain ⟨u, u1, u2⟩ := ih (i + 1) (arW (fX8_declaredAt (a3 + (2 * Int32.ofNat i)) w) a5 w) (by omega) (by omega) (by rw [(e_arW 3 5 (by unfold PDD PAD PS6 PRE; omega)).1]; exact h3)
      exact ⟨u, u1, OFF.tr u2 e_arW⟩
    · rw [a_68e (by omega) (by omega)]
      exact ⟨_, rfl, e_put_.mono fun k j h => Or.inr (Or.inr h)⟩
/-- one of ARRAYS, settled, by the class -/
theorem arW_ok (hT : TOKS kd wr nm vv m z gA gM) {p sg q i bb tk : Nat} {r : PRL} (hst : STJ kd wr nm vv m z gA gM true sl us stk ((p, sg, q) :: r) C TK SL t d b fa wA wM) (hi : i + 1 < 4104) (hus : us ≤ i) (h25 : gi wA 25 tk = Int32.ofNat (i + 1)) (htk : tk < 8193) (hsg : sg + (2 + 2 * bb) ≤ 6 + 8 * C 1 + C 3 + C 0) : STJ kd wr nm vv m z gA gM true sl us stk ((p, sg + (2 + 2 * bb), q) :: r) C TK SL t d b fa (arW (fX8_declaredAt (Int32.ofNat tk) wA) (Int32.ofNat bb) wA) wM ∧ OFF (fun k j => ((k = 18 ∨ k = 19) ∧ j = i + 1) ∨ PS6 k j ∨ PRE k j) (arW (fX8_declaredAt (Int32.ofNat tk) wA) (Int32.ofNat bb) wA) wA ∧ gi (arW (fX8_declaredAt (Int32.ofNat tk) wA) (Int32.ofNat bb) wA) 19 (i + 1) = Int32.ofNat bb ∧ gi (arW (fX8_declaredAt (Int32.ofNat tk) wA) (Int32.ofNat bb) wA) 18 (i + 1) = Int32.ofNat sg := by
  have hdA : fX8_declaredAt (Int32.ofNat tk) wA = Int32.ofNat (i + 1) := by
    unfold fX8_declaredAt
    rw [rgi_iN htk (by omega), h25]
    rfl
  have e2 : (2 : Int32) + 2 * Int32.ofNat bb = Int32.ofNat (2 + 2 * bb) := by
    rw [show (2 : Int32) = Int32.ofNat 2 from rfl, mul_iN, add_iN]
  rw [hdA]
  unfold arW
  rw [e2]
  have hb1 : fX8_bound (Int32.ofNat (i + 1)) (Int32.ofNat bb) wA = si wA 19 (i + 1) (Int32.ofNat bb) := by
    unfold fX8_bound
    rw [rsi_iN hi (by omega)]
    rfl
  rw [hb1]
  have hst1 : STJ kd wr nm vv m z gA gM true sl us stk ((p, sg, q) :: r) C TK SL t d b fa (si wA 19 (i + 1) (Int32.ofNat bb)) wM := hst.attr0 (OFF.si (by unfold PAD; omega)) (fun _ => ⟨OFF.si (by unfold PAT; omega), OFF.rf⟩)
  obtain ⟨hst2, hx⟩ := J.take5 (a := 2 + 2 * bb) hst1 (fun _ => hsg)
  rw [hx rfl]
  have hO2 : OFF PS6 (fX5_take (Int32.ofNat (2 + 2 * bb)) (si wA 19 (i + 1) (Int32.ofNat bb))).2 (si wA 19 (i + 1) (Int32.ofNat bb)) := e_take5
  generalize (fX5_take (Int32.ofNat (2 + 2 * bb)) (si wA 19 (i + 1) (Int32.ofNat bb))).2 = w2 at hst2 hO2 ⊢
  have hp1 : fX8_place (Int32.ofNat (i + 1)) (Int32.ofNat sg) w2 = si w2 18 (i + 1) (Int32.ofNat sg) := by
    unfold fX8_place
    rw [rsi_iN hi (by omega)]
    rfl
  rw [hp1]
  have hst3 : STJ kd wr nm vv m z gA gM true sl us stk ((p, sg + (2 + 2 * bb), q) :: r) C TK SL t d b fa (si w2 18 (i + 1) (Int32.ofNat sg)) wM := hst2.attr0 (OFF.si (by unfold PAD; omega)) (fun _ => ⟨OFF.si (by unfold PAT; omega), OFF.rf⟩)
  have hO4 : ∀ x, OFF PRE (fX0_put 30 (Int32.ofNat bb) x (si w2 18 (i + 1) (Int32.ofNat sg))).2 (si w2 18 (i + 1) (Int32.ofNat sg)) := fun x => e_put
  refine ⟨hst3.pre hT (hO4 _), ?_, ?_, ?_⟩
  · exact OFF.tr ((hO4 _).mono fun k j h => Or.inr (Or.inr h)) (OFF.tr (OFF.si (Or.inl ⟨Or.inl rfl, rfl⟩)) (OFF.tr (hO2.mono fun k j h => Or.inr (Or.inl h)) (OFF.si (Or.inl ⟨Or.inr rfl, rfl⟩))))
  · rw [((hO4 _) 19 (i + 1) (by unfold PRE; omega)).1, gi_si1 (by omega), (hO2 19 (i + 1) (by unfold PS6; omega)).1]
    exact gi_si0 _ _ _ _
  · rw [((hO4 _) 18 (i + 1) (by unfold PRE; omega)).1]
    exact gi_si0 _ _ _ _
end JT
