/-! BOTH SIDES: VARIABLES -/
section JT
variable {kd wr nm : Nat → Nat} {vv : Nat → Int64} {m z : Nat} {gA gM : Wd} {lv : Bool} {sl us B : Nat} {stk obl stkF : List Nat} {prs : PRL} {C TK : Nat → Nat} {SL : Nat → List Nat} {t d b : Nat} {fa : Int32} {wA wM : Wd} {γ α : Type} {wd : γ → Wd} {S : γ → α → Wd → Prop} {P : (Nat → Nat) → Nat → Wd → Wd → Prop}
def o2n (ow : Bool) : Nat := if ow = true then 1 else 0
/-- VARIABLES so far -/
def VRX (kd : Nat → Nat) (s p : Nat) (ow : Bool) (ty s1 i0 sg0 q0 o0 j : Nat) (fA fM : Wd) : Prop := ∀ i, i < j → kd (s1 + 2 * i) = 2 ∧ kd (s1 + 2 * i + 1) = 40 ∧ gi fM 22 (i0 + i) = Int32.ofNat (s1 + 2 * i) ∧ gi fM 19 (i0 + i) = 1 ∧ gi fM 20 (i0 + i) = Int32.ofNat ty ∧ gi fM 27 (i0 + i) = Int32.ofNat (o2n ow) ∧ (ow = false → gi fA 18 (i0 + i + 1) = Int32.ofNat (sg0 + i) ∧ gi fM 26 (i0 + i) = Int32.ofNat (q0 + i)) ∧ (ow = true → gi fM 26 (i0 + i) = Int32.ofNat (o0 + i)) ∧ DC1 fA fM (i0 + i) s p
/-- the attributes of one -/
def VR1 (s p : Nat) (ow : Bool) (ty s1 i sg q o : Nat) (fA fM : Wd) : Prop := gi fM 22 i = Int32.ofNat s1 ∧ gi fM 19 i = 1 ∧ gi fM 20 i = Int32.ofNat ty ∧ gi fM 27 i = Int32.ofNat (o2n ow) ∧ (ow = false → gi fA 18 (i + 1) = Int32.ofNat sg ∧ gi fM 26 i = Int32.ofNat q) ∧ (ow = true → gi fM 26 i = Int32.ofNat o) ∧ DC1 fA fM i s p
/-- what's noted of a VARIABLE by the class -/
def vrA (ow : Bool) (x : Int32) (w2 : Wd) : Wd := if ow = true then fX8_placeOwn x w2 else fX8_place x (fX5_take (Int32.ofNat 1) w2).1 (fX5_take (Int32.ofNat 1) w2).2
theorem e_vrA {ow : Bool} {x : Int32} {w : Wd} : OFF (fun k j => PAD k j ∨ PS6 k j) (vrA ow x w) w := by
  unfold vrA
  cases ow
  · rw [if_neg (by decide)]
    exact OFF.tr ((OFF.rsi (P := PAD) (fun _ => by unfold PAD; omega) : OFF PAD (fX8_place x _ _) _).mono fun k j h => Or.inl h) (e_take5.mono fun k j h => Or.inr h)
  · rw [if_pos rfl]
    refine (OFF.tr (OFF.si (by unfold PAD; omega)) (OFF.tr (OFF.rsi (fun _ => by unfold PAD; omega)) (OFF.rsi (fun _ => by unfold PAD; omega))) : OFF PAD (fX8_placeOwn x w) w).mono fun k j h => Or.inl h
theorem a_v25 {ow : Bool} {k : Int32 → Bool → Int32 → Wd → Option Wd} {ty j : Nat} {w : Wd} {K : Wd → Option γ} : bn (fX4_variables_25 k (Int32.ofNat ty) ow (Int32.ofNat j) w) K = lt2 (fX4_declared (Int32.ofNat 1) (Int32.ofNat ty) w) fun x w2 => if gi w2 3 5 = 0 then bn (k (Int32.ofNat ty) ow (Int32.ofNat (j + 1)) (vrA ow x w2)) K else bn (k (Int32.ofNat ty) ow (Int32.ofNat (j + 1)) w2) K := by
  unfold fX4_variables_25
  have e1 : fX4_declared 1 (Int32.ofNat ty) w = fX4_declared (Int32.ofNat 1) (Int32.ofNat ty) w := rfl
  rw [e1]
  generalize fX4_declared (Int32.ofNat 1) (Int32.ofNat ty) w = R
  rcases R with ⟨x, w2⟩
  unfold vrA
  rw [← ad1_iN j]
  dsimp only [lt2, lt]
  by_cases h3 : gi w2 3 5 = 0
  · rw [if_pos h3, if_pos h3]
    cases ow <;> rfl
  · rw [if_neg h3, if_neg h3]
theorem a_v2 {ow : Bool} {n j base : Nat} {a1 : Int32} {w : Wd} {K : Wd → Option γ} (h : IN1 kd wr z w t base fa) (hj : j + 1 ≤ 8192) : bn (oX4_variables_2 (n + 1) a1 ow (Int32.ofNat (j + 1)) w) K = lt2 (fX9_take (Int32.ofNat 40) w) fun c w4 => if c = true then bn (fX4_variables_25 (oX4_variables_2 n) a1 ow (Int32.ofNat (j + 1)) w4) K else K w4 := by
  show bn (fX4_variables_2 (oX4_variables_2 n) a1 ow (Int32.ofNat (j + 1)) w) K = _
  unfold fX4_variables_2
  rw [if_neg (show ¬ ((8193 : Int32) ≤ Int32.ofNat (j + 1)) from nle_iN (a := 8193) (by omega) (by omega)), if_neg (show ¬ (Int32.ofNat (j + 1) = 0) from fun h => absurd ((eq_iN (a := j + 1) (b := 0) (by omega) (by omega)).mp h) (by omega)), show (40 : Int32) = Int32.ofNat 40 from rfl]
  rcases fX9_take (Int32.ofNat 40) w with ⟨_ | _, u⟩
  · rw [lt2q, lt2q, if_neg (show ¬ (false = true) by decide), if_neg (show ¬ (false = true) by decide)]
    rfl
  · rw [lt2q, lt2q, if_pos rfl, if_pos rfl]
/-- what the reference notes of a VARIABLE, and goes on -/
def vrM (rm : TX12_block) (k : Bool → Int32 → Wd → Option (Option Int32 × Wd)) (ow : Bool) (ty : Int32) (x4 : Int32) (w5 : Wd) : Option (Option Int32 × Wd) := if inb x4 5000 = true then lt (si w5 27 (Int32.toNatClampNeg x4) (vp_nar .boolean (b2i ow))) fun w7 => if ow = true then (fX12_declaration_157 rm k x4 (gi w7 0 54) ow ty w7) else (bn2 (fX12_slots 1 w7) fun x9 w10 => fX12_declaration_157 rm k x4 x9 ow ty w10) else none
theorem m_v108 {rm : TX12_block} {k : Bool → Int32 → Wd → Option (Option Int32 × Wd)} {ow : Bool} {ty : Int32} {w : Wd} {K : Int32 → Wd → Option (Option α × Wd)} : be (fX12_declaration_108 rm k ow ty w) K = be (fX12_expect 285 w) fun x1 w2 => bn2 (fX12_declare (gi w 0 29) x1 1 ty w2) fun x4 w5 => be (vrM rm k ow ty x4 w5) K := by
  unfold fX12_declaration_108
  rw [be_be]
  refine be_cg fun x1 w2 => ?_
  rw [be_bn2]
  rfl
/-- behind a VARIABLE -/
theorem vr_ok {rm : TX12_block} {k : Bool → Int32 → Wd → Option (Option Int32 × Wd)} {ow : Bool} {ty : Int32} {i p q o : Nat} {w : Wd} {K : Int32 → Wd → Option (Option α × Wd)} (hi : i < 5000) (h30 : gi w 0 30 = Int32.ofNat p) (hp : p < 1200) (hq : gi w 35 p = Int32.ofNat q) (ho : gi w 0 54 = Int32.ofNat o) : ∃ u, be (vrM rm k ow ty (Int32.ofNat i) w) K = (be (fX12_skip 44 u) fun c w10 => if c = true then be (k ow ty w10) K else K (-1) w10) ∧ OFF (fun k j => ((k = 26 ∨ k = 27) ∧ j = i) ∨ (k = 0 ∧ j = 54 ∧ ow = true) ∨ (k = 35 ∧ j = p ∧ ow = false)) u w ∧ gi u 27 i = Int32.ofNat (o2n ow) ∧ gi u 0 54 = Int32.ofNat (o + o2n ow) ∧ gi u 26 i = (if ow = true then Int32.ofNat o else Int32.ofNat q) ∧ (ow = false → gi u 35 p = Int32.ofNat (q + 1)) ∧ ∀ k j, gl u k j = gl w k j := by
  have hfin : ∀ (a : Option (Option Bool × Wd)), be (be a fun x5 w6 => if x5 = true then (k ow ty w6) else (some (some (-1), w6))) K = be a fun c w10 => if c = true then be (k ow ty w10) K else K (-1) w10 := fun a => by
    rw [be_be]
    refine be_cg fun x w => ?_
    cases x
    · rw [if_neg (by decide), if_neg (by decide)]
      rfl
    · rw [if_pos rfl, if_pos rfl]
  unfold vrM
  rw [if_pos (inb_iN hi (by omega)), tc_iN (by omega), ltq]
  cases ow
  · rw [if_neg (by decide), show (1 : Int32) = Int32.ofNat 1 from rfl, sl_ok (p := p) (by rw [gi_si1 (by omega)]; exact h30) hp, bn2_so]
    unfold fX12_declaration_157
    rw [if_pos (inb_iN hi (by omega)), tc_iN (by omega), ltq, if_neg (by decide), hfin]
    refine ⟨_, rfl, OFF.tr (OFF.si (by omega)) (OFF.tr (OFF.si (Or.inr (Or.inr ⟨rfl, rfl, rfl⟩))) (OFF.si (by omega))), ?_, ?_, ?_, fun _ => ?_, fun _ _ => rfl⟩
    · rw [gi_si1 (by omega), gi_si1 (by omega), gi_si0]
      rfl
    · rw [gi_si1 (by omega), gi_si1 (by omega), gi_si1 (by omega)]
      exact ho
    · rw [gi_si0, gi_si1 (by omega), if_neg (by decide)]
      exact hq
    · rw [gi_si1 (by omega), gi_si0, gi_si1 (by omega), hq, add_iN]
  · rw [if_pos rfl]
    unfold fX12_declaration_157
    have e1 : gi (si w 27 i (vp_nar .boolean (b2i true))) 0 54 = Int32.ofNat o := by rw [gi_si1 (by omega)]; exact ho
    rw [if_pos (inb_iN hi (by omega)), tc_iN (by omega), ltq, if_pos rfl, ltq, hfin, e1]
    have e2 : gi (si (si w 27 i (vp_nar .boolean (b2i true))) 26 i (Int32.ofNat o)) 0 54 = Int32.ofNat o := by rw [gi_si1 (by omega)]; exact e1
    rw [e2, ad1_iN]
    refine ⟨_, rfl, OFF.tr (OFF.si (Or.inr (Or.inl ⟨rfl, rfl, rfl⟩))) (OFF.tr (OFF.si (by omega)) (OFF.si (by omega))), ?_, ?_, ?_, fun h => absurd h (by decide), fun _ _ => rfl⟩
    · rw [gi_si1 (by omega), gi_si1 (by omega), gi_si0]
      rfl
    · rw [gi_si0]
      rfl
    · rw [gi_si1 (by omega), gi_si0, if_pos rfl]
/-- a VARIABLE's places, on both sides -/
theorem STJ.vr {ow : Bool} {p sg q i : Nat} {r : PRL} (hst : STJ kd wr nm vv m z gA gM lv sl us stk ((p, sg, q) :: r) C TK SL t d b fa wA wM) {x : Int32} {uM : Wd}
    (hl : lv = true → x = Int32.ofNat (i + 1) ∧ i = us ∧ i + 1 < 4104 ∧ sg + 1 ≤ 6 + 8 * C 1 + C 3 + C 0 ∧ q + 1 ≤ 1 + 8 * C 1 + 2 * C 3 ∧ C 5 + 1 ≤ C 1 ∧ OFF (fun k j => ((k = 26 ∨ k = 27) ∧ j = i) ∨ (k = 0 ∧ j = 54 ∧ ow = true) ∨ (k = 35 ∧ j = p ∧ ow = false)) uM wM ∧ gi uM 0 54 = Int32.ofNat (C 5 + o2n ow) ∧ (ow = false → gi uM 35 p = Int32.ofNat (q + 1)) ∧ ∀ k j, gl uM k j = gl wM k j) :
    STJ kd wr nm vv m z gA gM lv sl us stk ((p, sg + (1 - o2n ow), q + (1 - o2n ow)) :: r) (upC C 5 (C 5 + o2n ow)) TK SL t d b fa (vrA ow x wA) uM ∧ (lv = true → OFF (fun k j => ((k = 16 ∨ k = 18) ∧ j = i + 1) ∨ (k = 13 ∧ j = 13) ∨ PS6 k j) (vrA ow x wA) wA ∧ (ow = true → gi (vrA ow x wA) 16 (i + 1) = 1 ∧ gi (vrA ow x wA) 18 (i + 1) = Int32.ofNat (C 5)) ∧ (ow = false → gi (vrA ow x wA) 16 (i + 1) = gi wA 16 (i + 1) ∧ gi (vrA ow x wA) 18 (i + 1) = Int32.ofNat sg)) := by
  cases ow
  · -- a slot
    have hv : ∀ w, vrA false x w = fX8_place x (fX5_take (Int32.ofNat 1) w).1 (fX5_take (Int32.ofNat 1) w).2 := fun w => if_neg (by decide)
    rw [hv]
    obtain ⟨h1, h1x⟩ := J.take5 (a := 1) hst (fun h => (hl h).2.2.2.1)
    have hpl : lv = true → fX8_place x (fX5_take (Int32.ofNat 1) wA).1 (fX5_take (Int32.ofNat 1) wA).2 = si (fX5_take (Int32.ofNat 1) wA).2 18 (i + 1) (Int32.ofNat sg) := fun h => by
      obtain ⟨g1, g2, g3, _⟩ := hl h
      unfold fX8_place
      rw [g1, h1x h, rsi_iN g3 (by omega)]
      rfl
    have h2 : STJ kd wr nm vv m z gA gM lv sl us stk ((p, sg + 1, q + 1) :: r) C TK SL t d b fa (fX5_take (Int32.ofNat 1) wA).2 (si wM 35 p (Int32.ofNat (q + 1))) := h1.slotM (fun h => ⟨OFF.si ⟨rfl, rfl⟩, gi_si0 _ _ _ _, (hl h).2.2.2.2.1⟩)
    have h3 : STJ kd wr nm vv m z gA gM lv sl us stk ((p, sg + 1, q + 1) :: r) C TK SL t d b fa (fX8_place x (fX5_take (Int32.ofNat 1) wA).1 (fX5_take (Int32.ofNat 1) wA).2) uM := h2.attr0 (OFF.rsi (fun _ => by unfold PAD; omega)) (fun h => by
      obtain ⟨g1, g2, g3, g4, g5, g6, g7, g8, g9, g10⟩ := hl h
      rw [hpl h]
      refine ⟨OFF.si (by unfold PAT; omega), fun k j hk => ?_⟩
      by_cases q35 : k = 35 ∧ j = p
      · rw [q35.1, q35.2, gi_si0]
        exact ⟨g9 rfl, g10 35 p⟩
      · have e := g7 k j (fun hq => by
          unfold PMT at hk
          rcases hq with hq | hq | hq
          · omega
          · exact absurd hq.2.2 (by decide)
          · omega)
        exact ⟨e.1.trans (gi_si1 q35).symm, e.2⟩)
    have hC : upC C 5 (C 5 + o2n false) = C := by
      show upC C 5 (C 5 + 0) = C
      exact upC_id
    rw [hC]
    refine ⟨h3, fun h => ?_⟩
    rw [hpl h]
    refine ⟨OFF.tr (OFF.si (Or.inl ⟨Or.inr rfl, rfl⟩)) (e_take5.mono fun k j hk => Or.inr (Or.inr hk)), fun h => absurd h (by decide), fun _ => ⟨?_, gi_si0 _ _ _ _⟩⟩
    rw [gi_si1 (by omega)]
    exact ((e_take5 (a := Int32.ofNat 1) (w := wA)) 16 (i + 1) (by unfold PS6; omega)).1
  · have hv : ∀ w, vrA true x w = fX8_placeOwn x w := fun w => if_pos rfl
    rw [hv]
    have hpl : lv = true → fX8_placeOwn x wA = si (si (si wA 16 (i + 1) 1) 18 (i + 1) (Int32.ofNat (C 5))) 13 13 (Int32.ofNat (C 5 + 1)) := fun h => by
      obtain ⟨g1, g2, g3, _⟩ := hl h
      have c6 : gi wA 13 13 = Int32.ofNat (C 5) := (hst.jl h).2.2.2.2.2.2.2.2.2.2.1.2.2.2.2.2.1
      unfold fX8_placeOwn
      have r1 : rsi wA 16 4104 (Int32.ofNat (i + 1)) 1 = si wA 16 (i + 1) 1 := rsi_iN g3 (by omega)
      have r2 : gi (si wA 16 (i + 1) 1) 13 13 = Int32.ofNat (C 5) := by rw [gi_si1 (by omega)]; exact c6
      have r3 : rsi (si wA 16 (i + 1) 1) 18 4104 (Int32.ofNat (i + 1)) (Int32.ofNat (C 5)) = si (si wA 16 (i + 1) 1) 18 (i + 1) (Int32.ofNat (C 5)) := rsi_iN g3 (by omega)
      have r4 : gi (si (si wA 16 (i + 1) 1) 18 (i + 1) (Int32.ofNat (C 5))) 13 13 = Int32.ofNat (C 5) := by rw [gi_si1 (by omega)]; exact r2
      rw [g1]
      dsimp only [lt]
      rw [r1, r2, r3, r4, ad1_iN]
    have h3 : STJ kd wr nm vv m z gA gM lv sl us stk ((p, sg, q) :: r) (upC C 5 (C 5 + 1)) TK SL t d b fa (fX8_placeOwn x wA) uM := hst.attr (OFF.tr (OFF.si (by unfold PAD; omega)) (OFF.tr (OFF.rsi (fun _ => by unfold PAD; omega)) (OFF.rsi (fun _ => by unfold PAD; omega)))) (fun h => by
      obtain ⟨g1, g2, g3, g4, g5, g6, g7, g8, g9⟩ := hl h
      rw [hpl h]
      refine ⟨OFF.tr (OFF.si (by unfold PAT; omega)) (OFF.tr (OFF.si (by unfold PAT; omega)) (OFF.si (by unfold PAT; omega))), g7.mono (fun k j hk => ?_), g8, gi_si0 _ _ _ _, by omega, g6⟩
      unfold PMT
      rcases hk with hk | hk | hk
      · omega
      · omega
      · exact absurd hk.2.2 (by decide))
    refine ⟨h3, fun h => ?_⟩
    rw [hpl h]
    refine ⟨OFF.tr (OFF.si (Or.inr (Or.inl ⟨rfl, rfl⟩))) (OFF.tr (OFF.si (Or.inl ⟨Or.inr rfl, rfl⟩)) (OFF.si (Or.inl ⟨Or.inl rfl, rfl⟩))), fun _ => ⟨?_, ?_⟩, fun h => absurd h (by decide)⟩
    · rw [gi_si1 (by omega), gi_si1 (by omega), gi_si0]
    · rw [gi_si1 (by omega), gi_si0]
theorem dcC_1c {i : Nat} (h : i ≠ 1) : dcC C 1 i = C i := by
  unfold dcC
  by_cases q : i = 6
  · rw [q, upC_s, if_neg (by decide)]
    rfl
  · rw [upC_n q, upC_n h]
theorem vars_loop (hT : TOKS kd wr nm vv m z gA gM) {s p sg0 q0 s1 ty t0 : Nat} {ow : Bool} {r : PRL} {C0 : Nat → Nat} {wA0 wM0 : Wd} {KA : Wd → Option γ} {KM : Int32 → Wd → Option (Option α × Wd)} {rm : TX12_block} {Q : Prop} (hty : 1 ≤ ty ∧ ty ≤ 2) (hb : 2800 ≤ b)
    (HX : ∀ lv' t' fa' uA uM C' TK' SL' sg' q' j, STJ kd wr nm vv m z gA gM lv' 1 (C' 1) (s :: stk) ((p, sg', q') :: r) C' TK' SL' t' d b fa' uA uM → (lv' = true → Q ∧ t' = s1 + 2 * j + 1 ∧ t' ≤ m ∧ (∀ i, i ≠ 1 → i ≠ 5 → C' i = C0 i) ∧ C' 1 = C0 1 + j + 1 ∧ (ow = true → C' 5 = C0 5 + j + 1 ∧ sg' = sg0 ∧ q' = q0) ∧ (ow = false → C' 5 = C0 5 ∧ sg' = sg0 + j + 1 ∧ q' = q0 + j + 1) ∧ STEP C0 t0 (s :: stk) ((p, sg0, q0) :: r) obl wA0 wM0 C' t' uA uM ∧ kd t' ≠ 40 ∧ kd (s1 + 2 * j) = 2 ∧ FACT (s :: stk) ((p, sg', q') :: r) obl (C0 0) C' t' (C' 0) (fun fA fM => VRX kd s p ow ty s1 (C0 1) sg0 q0 (C0 5) j fA fM ∧ VR1 s p ow ty (s1 + 2 * j) (C0 1 + j) (sg0 + j) (q0 + j) (C0 5 + j) fA fM) uA uM) → (lv' = false → t' = z - 1) → GLJ kd wr nm z gA gM wd lv' stkF fa' B (KA uA) (KM (-1) uM) S)
    {fo fm : Nat} : ∀ (n : Nat) (lv : Bool) (C TK : Nat → Nat) (SL : Nat → List Nat) (t : Nat) (fa : Int32) (wA wM : Wd) (sg q j : Nat), z ≤ t + n → j + 1 ≤ t → STJ kd wr nm vv m z gA gM lv 0 (C 1) (s :: stk) ((p, sg, q) :: r) C TK SL t d b fa wA wM →
      (lv = true → (Q ∧ d ≤ 40) ∧ t = s1 + 2 * j ∧ (∀ i, i ≠ 1 → i ≠ 5 → C i = C0 i) ∧ C 1 = C0 1 + j ∧ (ow = true → C 5 = C0 5 + j ∧ sg = sg0 ∧ q = q0) ∧ (ow = false → C 5 = C0 5 ∧ sg = sg0 + j ∧ q = q0 + j) ∧ STEP C0 t0 (s :: stk) ((p, sg0, q0) :: r) obl wA0 wM0 C t wA wM ∧ FACT (s :: stk) ((p, sg, q) :: r) obl (C0 0) C t (C 0) (fun fA fM => VRX kd s p ow ty s1 (C0 1) sg0 q0 (C0 5) j fA fM) wA wM) → (lv = false → t = z - 1) →
      GLJ kd wr nm z gA gM wd lv stkF fa B (bn (fX4_variables_25 (oX4_variables_2 (fo + n + 1)) (Int32.ofNat ty) ow (Int32.ofNat j) wA) KA) (be (fX12_declaration_108 rm (oX12_declaration_108 rm (fm + n)) ow (Int32.ofNat ty) wM) KM) S := by
  intro n
  induction n with
  | zero =>
    intro lv C TK SL t fa wA wM sg q j hz hj hst
    have := hst.in1.tz
    omega
  | succ n ih =>
    intro lv C TK SL t fa wA wM sg q j hz hj hst hl hdd
    have hin := hst.in1
    have htz := hin.tz
    have hz9 := hin.z9
    rw [a_v25, m_v108]
    have hPFs : STBJ (s :: stk) ((p, sg, q) :: r) obl (PF C0 t0 (s :: stk) ((p, sg0, q0) :: r) obl wA0 wM0) := PF.stb (fun _ h _ => h) (fun y hy _ => pr_same y hy) (fun _ h _ => h)
    refine J.declare (sort := 1) (kind := 1) (SC := fun w2 => gi wM 0 29) (P := fun C' t' a c => lv = true → PF C0 t0 (s :: stk) ((p, sg0, q0) :: r) obl wA0 wM0 C' t' a c ∧ PFA (s :: stk) ((p, sg, q) :: r) obl (C0 0) C t (C 0) (fun fA fM => VRX kd s p ow ty s1 (C0 1) sg0 q0 (C0 5) j fA fM) C' t' a c) hT (STBJ.if fun _ => STBJ.and hPFs PFA.stb) hst (fun h _ => ⟨(hl h).2.2.2.2.2.2.1, LEC.rf, Nat.le_refl _, (hl h).2.2.2.2.2.2.2⟩) hb (by omega) (by omega) (by omega) (fun h => ⟨fun hk => m_expect (x := 285) (k := 2) (hst.jl h).2.2.1 (hl h).1.2 rfl (by omega) hk, fun hk => m_expect_no (x := 285) (k := 2) (hst.jl h).2.2.1 rfl (by omega) (Or.inr hk) (by omega)⟩) (fun h => (hst.jl h).2.2.2.2.2.2.2.2.2.1) (fun lv1 t1 fa1 x vA vM TK1 SL1 hst1 hl1 hd1 => ?_)
    have hin1 := hst1.in1
    rw [if_pos hin1.2.1, show fo + (n + 1) + 1 = (fo + n + 1) + 1 by omega]
    have hd5 : dcC C 1 5 = C 5 := dcC_1c (by omega)
    cases lv1
    · have ht1 := hd1 rfl
      have hst2 := (STJ.vr (ow := ow) (i := 0) (x := x) (uM := vM) hst1 (fun h => absurd h (by decide))).1
      rw [a_v2 hst2.in1 (by omega), a_take_no hst2.in1.1 (by omega) (by rw [ht1]; have := hin1.1.2.2.2.1 (z - 1) (by omega); omega), lt2q, if_neg (show ¬ (false = true) by decide)]
      refine GLJ.ref (rM' := KM (-1) vM) (fun h => absurd h (by decide)) ?_
      exact HX false t1 fa1 _ vM C TK1 SL1 sg q 0 (hst2.dd rfl) (fun h => absurd h (by decide)) hd1
    · obtain ⟨w1, w2, w3, w4, w5, w6, w7, w8, l, pr, sg', q', r', e1, e2, hN, e4, e5⟩ := hl1 rfl
      obtain ⟨⟨y0, yd⟩, y1, y2, y3, y4, y5, y6, y7⟩ := hl w1
      obtain ⟨e6, e7⟩ := List.cons.inj e1
      obtain ⟨e8, e9⟩ := Prod.mk.inj e6
      obtain ⟨e10, e11⟩ := Prod.mk.inj e9
      rw [← e8] at hN e5
      rw [← e11] at e5
      obtain ⟨v1, v2⟩ := w8 w1
      have hJ1 := (hst1.jl rfl).2
      have hJ0 := (hst.jl w1).2
      have hwt := hT.1 t1
      have hcc := hJ1.2.2.2.2.2.1
      have hc1 : dcC C 1 1 = C 1 + 1 := dcC_1
      have hc5 : dcC C 1 5 = C 5 := dcC_1c (by omega)
      have hc4 : dcC C 1 4 = C 4 := dcC_1c (by omega)
      have hc3 : dcC C 1 3 = C 3 := dcC_1c (by omega)
      have hc0 : dcC C 1 0 = C 0 := dcC_1c (by omega)
      have hc55 := hJ0.2.2.2.2.2.1.2.2.2.2.2.1
      obtain ⟨u, u1, u2, u3, u4, u5, u6, u7⟩ := vr_ok (rm := rm) (k := oX12_declaration_108 rm (fm + (n + 1))) (ow := ow) (ty := Int32.ofNat ty) (K := KM) (w := vM) (i := C 1) (p := p) (q := q) (o := C 5) (by omega) hJ1.topq.2.1 (by have := hJ1.topq.2.2; omega) e5 (by rw [← hc5]; exact hJ1.2.2.2.2.2.2.2.2.2.1.2.2.2.2.1)
      rw [u1]
      obtain ⟨hst2, hvr⟩ := STJ.vr (ow := ow) (i := C 1) (x := x) (uM := u) hst1 (fun _ => ⟨w5, rfl, by omega, by have := hJ0.top.2.2.2; omega, by have := hJ0.topq.1; omega, by omega, u2, by rw [hc5]; exact u4, u6, u7⟩)
      obtain ⟨a1, a2, a3⟩ := hvr rfl
      obtain ⟨⟨n1, n2, n3, n4, n5, n6, n7, n8, n9, n10, n11⟩, m1, m2, m3, m4, m5, m6, m7, m8, m9⟩ := hN
      have hN' : NEW (C 1) t l p 1 1 (Int32.ofNat ty) vA vM := ⟨⟨n1, n2, n3, n4, n5, n6, n7, n8, n9, n10, n11⟩, m1, m2, m3, m4, m5, m6, m7, m8, m9⟩
      generalize hYA : vrA ow x vA = YA at hst2 a1 a2 a3
      have fA : ∀ k j, ¬ (((k = 16 ∨ k = 18) ∧ j = C 1 + 1) ∨ (k = 13 ∧ j = 13) ∨ PS6 k j) → gi YA k j = gi vA k j := fun k j hk => (a1 k j hk).1
      have fM : ∀ k j, ¬ (((k = 26 ∨ k = 27) ∧ j = C 1) ∨ (k = 0 ∧ j = 54 ∧ ow = true) ∨ (k = 35 ∧ j = p ∧ ow = false)) → gi u k j = gi vM k j := fun k j hk => (u2 k j hk).1
      have hC2 : ∀ i, i ≠ 1 → i ≠ 5 → (upC (dcC C 1) 5 (dcC C 1 5 + o2n ow)) i = C i := fun i h1 h5 => by rw [upC_n h5, dcC_1c h1]
      have hC21 : (upC (dcC C 1) 5 (dcC C 1 5 + o2n ow)) 1 = C 1 + 1 := by rw [upC_n (by omega), hc1]
      have hC25 : (upC (dcC C 1) 5 (dcC C 1 5 + o2n ow)) 5 = C 5 + o2n ow := by rw [upC_s, hc5]
      generalize hCe : upC (dcC C 1) 5 (dcC C 1 5 + o2n ow) = C2 at hst2 hC2 hC21 hC25
      have hsym : SYM kd m C2 TK1 YA u (C 1) := sym_mk hJ1 hN' rfl (by rw [w6]; exact if_pos rfl) (by omega) w2 hty.2 (fun k hk => fA k _ (by unfold PS6; omega)) (fA 25 t (by unfold PS6; omega)) (fun k hk => fM k _ (by omega)) (fM 30 p (by omega)) (by rw [hC2 4 (by omega) (by omega), hc4]; exact Nat.le_refl _) (Or.inl ⟨by rw [fM 19 _ (by omega)]; exact m1, by rw [fA 14 _ (by unfold PS6; omega)]; exact n2, by rw [fM 20 _ (by omega), m2]; exact of_ne (k := 0) (by omega) (by omega) (by omega), by
        cases ow
        · exact Or.inl ⟨u3, (a3 rfl).1.trans n5⟩
        · refine Or.inr ⟨u3, (a2 rfl).1, C 5, by rw [hC25]; exact Nat.lt_succ_self _, ?_, u5⟩
          rw [(a2 rfl).2, hc5]⟩)
      have hst3 := STJ.us1 hst2 (fun _ => ⟨by omega, hsym, by rw [fM 19 _ (by omega), m1]; decide⟩)
      rw [← hC21] at hst3
      have hLC : LEC C C2 := fun i => by
        by_cases i1 : i = 1
        · rw [i1, hC21]; omega
        · by_cases i5 : i = 5
          · rw [i5, hC25]; omega
          · rw [hC2 i i1 i5]; exact Nat.le_refl _
      have h01 : C0 1 ≤ C 1 := by omega
      have hxu : EXF vM u := EXF.slot u2 (fun k j hk => by omega) e5 ((hst2.jl rfl).2.sl35 hT).1 ⟨by omega, ((hst2.jl rfl).2.sl35 hT).2.1⟩ (fun hh => by rw [fM 0 10 (by omega)]; exact hh)
      have hL0 : LEC C0 C2 := (v1.1 : LEC C0 (dcC C 1)).tr (fun i => by
        by_cases i1 : i = 1
        · rw [i1, hC21, hc1]; exact Nat.le_refl _
        · by_cases i5 : i = 5
          · rw [i5, hC25, hc5]; omega
          · rw [hC2 i i1 i5, dcC_1c i1]; exact Nat.le_refl _)
      have hstep : STEP C0 t0 (s :: stk) ((p, sg0, q0) :: r) obl wA0 wM0 C2 t1 YA u := STEP.att (pz := p) ⟨_, List.mem_cons_self, rfl⟩ v1 (a1.mono fun k j hk => by unfold NQA; unfold PS6 at hk; omega) (u2.mono fun k j hk => by unfold NQM; omega) hL0 hxu
      have hF1 : FACT (s :: stk) ((p, sg + (1 - o2n ow), q + (1 - o2n ow)) :: r) obl (C0 0) C2 t1 (C2 0) (fun fA fM => VRX kd s p ow ty s1 (C0 1) sg0 q0 (C0 5) j fA fM) YA u := (FACT.att (pz := p) ⟨_, List.mem_cons_self, rfl⟩ v2.2.2 (a1.mono fun k j hk => by unfold NQA; unfold PS6 at hk; omega) (u2.mono fun k j hk => by unfold NQM; omega) hxu).wk (Nat.le_refl _) hLC (by omega) (Or.inl (by rw [hC2 0 (by omega) (by omega)])) (fun _ h _ => h) (fun y hy _ => pr_same y hy) (fun _ h _ => h)
      have hF2 : FACT (s :: stk) ((p, sg + (1 - o2n ow), q + (1 - o2n ow)) :: r) obl (C0 0) C2 t1 (C2 0) (fun fA fM => VR1 s p ow ty (s1 + 2 * j) (C0 1 + j) (sg0 + j) (q0 + j) (C0 5 + j) fA fM) YA u := fun gA gM hA hM hE => by
        have gm : ∀ k, 18 ≤ k ∧ k ≤ 28 → gi gM k (C 1) = gi u k (C 1) := fun k hk => (hM k (C 1) (Or.inr (Or.inr (Or.inr (Or.inr (Or.inl ⟨hk.1, hk.2, by omega⟩)))))).1
        have ga : gi gA 18 (C 1 + 1) = gi YA 18 (C 1 + 1) := hA 18 (C 1 + 1) (Or.inl ⟨by omega, by omega, by omega⟩)
        show VR1 s p ow ty (s1 + 2 * j) (C0 1 + j) (sg0 + j) (q0 + j) (C0 5 + j) gA gM
        unfold VR1
        rw [← y3, gm 22 (by omega), gm 19 (by omega), gm 20 (by omega), gm 27 (by omega), gm 26 (by omega), ga, fM 22 _ (by omega), fM 19 _ (by omega), fM 20 _ (by omega), u3, u5, m1, m2, m3, y1]
        refine ⟨rfl, rfl, rfl, rfl, fun ho => ?_, fun ho => ?_, (DC1.nw m4 w7).ext ((gm 23 (by omega)).trans (fM 23 _ (by omega))) ((hA 29 (C 1 + 1) (Or.inr (Or.inr (Or.inr (Or.inl ⟨by omega, by omega, by omega⟩))))).trans (fA 29 _ (by unfold PS6; omega))) (hxu.tr hE)⟩
        · obtain ⟨z1, z2, z3⟩ := y5 ho
          rw [(a3 ho).2, ho, z2, z3]
          exact ⟨rfl, rfl⟩
        · obtain ⟨z1, z2, z3⟩ := y4 ho
          rw [ho, z1]
          rfl
      have hv4 : ow = true → C2 5 = C0 5 + j + 1 ∧ sg + (1 - o2n ow) = sg0 ∧ q + (1 - o2n ow) = q0 := fun ho => by
        obtain ⟨z1, z2, z3⟩ := y4 ho
        rw [hC25, ho]
        show C 5 + 1 = _ ∧ sg + (1 - 1) = sg0 ∧ q + (1 - 1) = q0
        omega
      have hv5 : ow = false → C2 5 = C0 5 ∧ sg + (1 - o2n ow) = sg0 + j + 1 ∧ q + (1 - o2n ow) = q0 + j + 1 := fun ho => by
        obtain ⟨z1, z2, z3⟩ := y5 ho
        rw [hC25, ho]
        show C 5 + 0 = _ ∧ sg + (1 - 0) = sg0 + j + 1 ∧ q + (1 - 0) = q0 + j + 1
        omega
      rw [a_v2 hst3.in1 (by omega)]
      have hPFs2 : STBJ (s :: stk) ((p, sg + (1 - o2n ow), q + (1 - o2n ow)) :: r) obl (PF C0 t0 (s :: stk) ((p, sg0, q0) :: r) obl wA0 wM0) := PF.stb (fun _ h _ => h) (fun y hy _ => pr_same y hy) (fun _ h _ => h)
      refine J.take (c := 40) (P := fun C' t' a c => PF C0 t0 (s :: stk) ((p, sg0, q0) :: r) obl wA0 wM0 C' t' a c ∧ PFA (s :: stk) ((p, sg + (1 - o2n ow), q + (1 - o2n ow)) :: r) obl (C0 0) C2 t1 (C2 0) (fun fA fM => VRX kd s p ow ty s1 (C0 1) sg0 q0 (C0 5) j fA fM ∧ VR1 s p ow ty (s1 + 2 * j) (C0 1 + j) (sg0 + j) (q0 + j) (C0 5 + j) fA fM) C' t' a c) hT (STBJ.and hPFs2 PFA.stb) hst3 (fun _ => ⟨hstep, LEC.rf, Nat.le_refl _, hF1.and hF2⟩) (by omega) (fun _ => yd) (by omega) rfl (fun h40 sA sM hst4 hl4 => ?_) (fun h40 => ?_)
      · obtain ⟨k1, k2, k3⟩ := hl4 rfl
        rw [if_pos rfl, if_pos rfl]
        have e3 : ∀ w, oX12_declaration_108 rm (fm + (n + 1)) ow (Int32.ofNat ty) w = fX12_declaration_108 rm (oX12_declaration_108 rm (fm + n)) ow (Int32.ofNat ty) w := fun _ => rfl
        rw [e3]
        refine ih true C2 TK1 SL1 (t1 + 1) fa1 sA sM _ _ (j + 1) (by omega) (by omega) hst4 (fun _ => ⟨⟨y0, yd⟩, by omega, fun i h1 h5 => by rw [hC2 i h1 h5]; exact y2 i h1 h5, by omega, fun h => by have := hv4 h; omega, fun h => by have := hv5 h; omega, k2, ?_⟩) (fun h => absurd h (by decide))
        refine (k3.2.2.wk (Nat.le_refl _) LEC.rf (by omega) (Or.inl rfl) (fun _ h _ => h) (fun y hy _ => ⟨y, hy, rfl⟩) (fun _ h _ => h)).imp (fun fA fM hh i hi => ?_)
        by_cases q9 : i = j
        · rw [q9]
          obtain ⟨b1, b2, b3, b4, b5, b6⟩ := hh.2
          exact ⟨by rw [← y1]; exact w2, by rw [show s1 + 2 * j + 1 = t1 by omega]; exact h40, b1, b2, b3, b4, b5, b6⟩
        · exact hh.1 i (by omega)
      · rw [if_neg (show ¬ (false = true) by decide), if_neg (show ¬ (false = true) by decide)]
        exact HX true t1 fa1 YA u C2 TK1 SL1 _ _ j hst3 (fun _ => ⟨y0, by omega, by omega, fun i h1 h5 => by rw [hC2 i h1 h5]; exact y2 i h1 h5, by omega, hv4, hv5, hstep, h40, by rw [← y1]; exact w2, hF1.and hF2⟩) (fun h => absurd h (by decide))
end JT
