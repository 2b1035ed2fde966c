/-! BOTH SIDES: formals -/
section JT
variable {kd wr nm : Nat → Nat} {vv : Nat → Int64} {m z : Nat} {gA gM : Wd} {lv : Bool} {sl us B : Nat} {stk obl stkF : List Nat} {prs : PRL} {C TK : Nat → Nat} {SL : Nat → List Nat} {t d b : Nat} {fa : Int32} {wA wM : Wd} {γ α : Type} {wd : γ → Wd} {S : γ → α → Wd → Prop} {P : (Nat → Nat) → Nat → Wd → Wd → Prop}
def NQA2 (C : Nat → Nat) (k j : Nat) : Prop := k = 3 ∨ k = 4 ∨ k = 13 ∨ k = 26 ∨ k = 27 ∨ 34 ≤ k ∨ (14 ≤ k ∧ k ≤ 24 ∧ C 1 + 1 ≤ j)
def NQM2 (C : Nat → Nat) (k j : Nat) : Prop := k = 0 ∨ k = 34 ∨ (18 ≤ k ∧ k ≤ 28 ∧ C 1 ≤ j) ∨ (29 ≤ k ∧ k ≤ 38 ∧ C 4 ≤ j)
theorem STEP.at2 {C' C2 : Nat → Nat} {t' t2 : Nat} {uA uM vA vM : Wd} (h : STEP C t stk prs obl wA wM C' t' uA uM) (hA : OFF (NQA2 C) vA uA) (hM : OFF (NQM2 C) vM uM) (hC : LEC C C2) (ht : t ≤ t2) (hE : EXF uM vM) : STEP C t stk prs obl wA wM C2 t2 vA vM := by
  refine ⟨hC, ht, fun k j hk => (hA k j (fun hq => ?_)).1.trans (h.2.2.1 k j hk), fun k j hk => ?_, h.2.2.2.2.tr hE⟩
  · unfold NQA2 at hq
    rcases hk with hk | hk | hk | hk | hk | hk | hk <;> omega
  · have h1 := hM k j (fun hq => by
      unfold NQM2 at hq
      rcases hk with hk | hk | hk | hk | hk | hk | hk | hk | hk <;> omega)
    have h2 := h.2.2.2.1 k j hk
    exact ⟨h1.1.trans h2.1, h1.2.trans h2.2⟩
theorem SM.off2 {Q : Nat → Nat → Prop} {u w : Wd} (h : SM kd wr m w t d) (hO : OFF Q u w) (hP : ∀ k j, Q k j → k ≠ 2 ∧ k ≠ 3 ∧ (k = 0 → j ≠ 7 ∧ j ≠ 8)) : SM kd wr m u t d := by
  have fM : ∀ k j, ¬ Q k j → gi u k j = gi w k j := fun k j hk => (hO k j hk).1
  obtain ⟨⟨a1, a2, a3, a4, a5⟩, a6, a7, a8, a9⟩ := h
  exact ⟨⟨a1, a2, a3, a4, fun i hi => by rw [fM 2 i (fun hq => by have := hP _ _ hq; omega), fM 3 i (fun hq => by have := hP _ _ hq; omega)]; exact a5 i hi⟩, a6, a7, by rw [fM 0 7 (fun hq => by have := hP _ _ hq; omega)]; exact a8, by rw [fM 0 8 (fun hq => by have := hP _ _ hq; omega)]; exact a9⟩
theorem e_note {x n : Int32} {u : Wd} : OFF (fun k j => k = 3 ∧ (j = 6 ∨ j = 7)) (fX1_note x n u) u := by
  rw [note_fl]
  exact OFF.tr (OFF.si ⟨rfl, Or.inr rfl⟩) (OFF.si ⟨rfl, Or.inl rfl⟩)
theorem a_where {w : Wd} {a : Nat} {gb : Bool} (h : CT kd wr gb z w t fa) (ha : a < z) : fX9_where (Int32.ofNat a) w = Int32.ofNat (wr a) := by
  have hz : z ≤ 8193 := h.2.1
  unfold fX9_where
  rw [ltq, rgi_iN (by omega) (by omega)]
  exact (h.2.2.2.2.2.1 a ha).2.1
/-- a procedure's symbol and the procedure -/
def HD0 (c1 pn p sp sf l ty tok : Nat) (fA fM : Wd) : Prop := (gi fA 14 (c1 + 1) = 3 ∧ gi fA 15 (c1 + 1) = Int32.ofNat ty ∧ gi fA 16 (c1 + 1) = 0 ∧ gi fA 17 (c1 + 1) = Int32.ofNat l ∧ gi fA 21 (c1 + 1) = Int32.ofNat tok ∧ gi fA 25 tok = Int32.ofNat (c1 + 1)) ∧ (gi fM 19 c1 = 3 ∧ gi fM 20 c1 = Int32.ofNat ty ∧ gi fM 22 c1 = Int32.ofNat tok ∧ gi fM 23 c1 = Int32.ofNat p ∧ gi fM 24 c1 = Int32.ofNat pn) ∧ gi fM 29 pn = Int32.ofNat c1 ∧ gi fM 30 pn = Int32.ofNat (l + 1) ∧ gi fM 32 pn = Int32.ofNat (c1 + 1) ∧ gi fM 37 pn = Int32.ofNat p ∧ DC1 fA fM c1 sp p
theorem HD0.agr {c1 pn p sp sf l ty tok : Nat} {uA uM : Wd} (h : HD0 c1 pn p sp sf l ty tok wA wM) (hA : ∀ k, (14 ≤ k ∧ k ≤ 17 ∨ k = 21 ∨ k = 29) → gi uA k (c1 + 1) = gi wA k (c1 + 1)) (h25 : gi uA 25 tok = gi wA 25 tok) (hM : ∀ k, 19 ≤ k ∧ k ≤ 24 → gi uM k c1 = gi wM k c1) (hP : ∀ k, k = 29 ∨ k = 30 ∨ k = 32 ∨ k = 37 → gi uM k pn = gi wM k pn) (hE : EXF wM uM) : HD0 c1 pn p sp sf l ty tok uA uM := by
  obtain ⟨⟨a1, a2, a3, a4, a5, a6⟩, ⟨b1, b2, b3, b4, b5⟩, c1, c2, c3, c4, c5⟩ := h
  exact ⟨⟨(hA 14 (by omega)).trans a1, (hA 15 (by omega)).trans a2, (hA 16 (by omega)).trans a3, (hA 17 (by omega)).trans a4, (hA 21 (by omega)).trans a5, h25.trans a6⟩, ⟨(hM 19 (by omega)).trans b1, (hM 20 (by omega)).trans b2, (hM 22 (by omega)).trans b3, (hM 23 (by omega)).trans b4, (hM 24 (by omega)).trans b5⟩, (hP 29 (by omega)).trans c1, (hP 30 (by omega)).trans c2, (hP 32 (by omega)).trans c3, (hP 37 (by omega)).trans c4, c5.ext (hM 23 (by omega)) (hA 29 (by omega)) hE⟩
theorem HD0.step {c1 pn p sp sf l ty tok : Nat} {C' : Nat → Nat} {t' : Nat} {uA uM : Wd} (h : HD0 c1 pn p sp sf l ty tok wA wM) (hs : STEP C t stk prs obl wA wM C' t' uA uM) (h1 : c1 + 1 ≤ C 1) (ht : tok < t) (h4 : pn < C 4) : HD0 c1 pn p sp sf l ty tok uA uM :=
  h.agr (fun k hk => by
    rcases hk with hk | hk | hk
    · exact hs.2.2.1 k (c1 + 1) (Or.inl ⟨by omega, by omega, by omega⟩)
    · exact hs.2.2.1 k (c1 + 1) (Or.inl ⟨by omega, by omega, by omega⟩)
    · exact hs.2.2.1 k (c1 + 1) (Or.inr (Or.inr (Or.inr (Or.inl ⟨by omega, by omega, by omega⟩))))) (hs.2.2.1 25 tok (Or.inr (Or.inl ⟨rfl, ht⟩))) (fun k hk => (hs.2.2.2.1 k c1 (Or.inr (Or.inr (Or.inr (Or.inr (Or.inl ⟨by omega, by omega, by omega⟩)))))).1) (fun k hk => (hs.2.2.2.1 k pn (Or.inr (Or.inr (Or.inr (Or.inr (Or.inr (Or.inl ⟨by omega, h4, fun hh => by omega⟩))))))).1) hs.2.2.2.2
/-- a formal: what never changes -/
def FM0 (tk x i pn sf l : Nat) (fA fM : Wd) : Prop := gi fA 21 (x + 1) = Int32.ofNat tk ∧ gi fA 25 tk = Int32.ofNat (x + 1) ∧ gi fA 17 (x + 1) = Int32.ofNat l ∧ gi fA 19 (x + 1) = 0 ∧ gi fM 19 x = 6 ∧ gi fM 22 x = Int32.ofNat tk ∧ gi fM 23 x = Int32.ofNat pn ∧ gi fM 26 x = Int32.ofNat (1 + 2 * i) ∧ DC1 fA fM x sf pn
/-- its SPEC -/
def FM2 (x cb : Nat) (fA fM : Wd) : Prop := (∃ ty, ty ≤ 2 ∧ gi fM 20 x = Int32.ofNat ty ∧ gi fA 15 (x + 1) = Int32.ofNat ty ∧ (gi fM 24 x = 1 ∨ gi fM 24 x = 2 → ty ≠ 0) ∧ (gi fM 24 x = 5 → ty = 0)) ∧ ∃ k c, k ≤ 5 ∧ c ≤ cb ∧ gi fM 24 x = Int32.ofNat k ∧ gi fA 14 (x + 1) = Int32.ofNat k ∧ gi fA 23 (x + 1) = Int32.ofNat c ∧ (c = 0 ∧ k = 0 ∧ gi fM 25 x = -1 ∨ c = 1 ∧ 1 ≤ k ∧ gi fM 25 x = 1 ∨ 2 ≤ c ∧ 1 ≤ k ∧ gi fM 25 x = 2)
theorem FM0.agr {tk x i pn sf l : Nat} {uA uM : Wd} (h : FM0 tk x i pn sf l wA wM) (hA : ∀ k, k = 17 ∨ k = 19 ∨ k = 21 ∨ k = 29 → gi uA k (x + 1) = gi wA k (x + 1)) (h25 : gi uA 25 tk = gi wA 25 tk) (hM : ∀ k, k = 19 ∨ k = 22 ∨ k = 23 ∨ k = 26 → gi uM k x = gi wM k x) (hE : EXF wM uM) : FM0 tk x i pn sf l uA uM := by
  obtain ⟨a1, a2, a3, a4, b1, b2, b3, b4, c⟩ := h
  exact ⟨(hA 21 (by omega)).trans a1, h25.trans a2, (hA 17 (by omega)).trans a3, (hA 19 (by omega)).trans a4, (hM 19 (by omega)).trans b1, (hM 22 (by omega)).trans b2, (hM 23 (by omega)).trans b3, (hM 26 (by omega)).trans b4, c.ext (hM 23 (by omega)) (hA 29 (by omega)) hE⟩
theorem FM2.agr {x cb cb' : Nat} {uA uM : Wd} (h : FM2 x cb wA wM) (hc : cb ≤ cb') (hA : ∀ k, k = 14 ∨ k = 15 ∨ k = 23 → gi uA k (x + 1) = gi wA k (x + 1)) (hM : ∀ k, k = 20 ∨ k = 24 ∨ k = 25 → gi uM k x = gi wM k x) : FM2 x cb' uA uM := by
  unfold FM2 at h ⊢
  rw [hA 14 (by omega), hA 15 (by omega), hA 23 (by omega), hM 20 (by omega), hM 24 (by omega), hM 25 (by omega)]
  obtain ⟨h1, k, c, h2, h3, h4⟩ := h
  exact ⟨h1, k, c, h2, by omega, h4⟩
/-- formal i of those from c1 + 1 on -/
def FMV (kd TK : Nat → Nat) (c1 pn sf l cb t i : Nat) (fA fM : Wd) : Prop := kd (TK (c1 + 1 + i)) = 2 ∧ TK (c1 + 1 + i) < t ∧ FM0 (TK (c1 + 1 + i)) (c1 + 1 + i) i pn sf l fA fM ∧ FM2 (c1 + 1 + i) cb fA fM ∧ gi fM 28 (c1 + 1 + i) = 0 ∧ (gi fA 16 (c1 + 1 + i + 1) = 2 ∨ gi fA 16 (c1 + 1 + i + 1) = 3)
theorem FMV.agr {c1 pn sf l cb cb' t' i : Nat} {uA uM : Wd} (h : FMV kd TK c1 pn sf l cb t i wA wM) (hc : cb ≤ cb') (ht : t ≤ t') (hA : ∀ k, (14 ≤ k ∧ k ≤ 17 ∨ k = 19 ∨ k = 21 ∨ k = 23 ∨ k = 29) → gi uA k (c1 + 1 + i + 1) = gi wA k (c1 + 1 + i + 1)) (h25 : ∀ j, j < t → gi uA 25 j = gi wA 25 j) (hM : ∀ k, 19 ≤ k ∧ k ≤ 28 ∧ k ≠ 21 → gi uM k (c1 + 1 + i) = gi wM k (c1 + 1 + i)) (hE : EXF wM uM) : FMV kd TK c1 pn sf l cb' t' i uA uM := by
  obtain ⟨a1, a2, a3, a4, a5, a6⟩ := h
  exact ⟨a1, by omega, a3.agr (fun k hk => hA k (by omega)) (h25 _ a2) (fun k hk => hM k (by omega)) hE, a4.agr hc (fun k hk => hA k (by omega)) (fun k hk => hM k (by omega)), by rw [hM 28 (by omega)]; exact a5, by rw [hA 16 (by omega)]; exact a6⟩
theorem FMV.step {c1 pn sf l cb i : Nat} {C' : Nat → Nat} {t' : Nat} {uA uM : Wd} (h : FMV kd TK c1 pn sf l cb t i wA wM) (hs : STEP C t stk prs obl wA wM C' t' uA uM) (h1 : c1 + 1 + i < C 1) : FMV kd TK c1 pn sf l cb t' i uA uM :=
  h.agr (Nat.le_refl _) hs.2.1 (fun k hk => if h29 : k = 29 then hs.2.2.1 k _ (Or.inr (Or.inr (Or.inr (Or.inl ⟨by omega, by omega, by omega⟩)))) else hs.2.2.1 k _ (Or.inl ⟨by omega, by omega, by omega⟩)) (fun j hj => hs.2.2.1 25 j (Or.inr (Or.inl ⟨rfl, hj⟩))) (fun k hk => (hs.2.2.2.1 k _ (Or.inr (Or.inr (Or.inr (Or.inr (Or.inl ⟨by omega, by omega, by omega⟩)))))).1) hs.2.2.2.2
theorem FMV.tk {c1 pn sf l cb i : Nat} {TK' : Nat → Nat} (h : FMV kd TK c1 pn sf l cb t i wA wM) (hTK : TK' (c1 + 1 + i) = TK (c1 + 1 + i)) : FMV kd TK' c1 pn sf l cb t i wA wM := by
  unfold FMV at h ⊢
  rw [hTK]
  exact h
/-- what the class notes of a formal -/
def hwA (j : Nat) (x : Int32) (w : Wd) : Wd := if j = 8 then fX1_note (fX8_token x (fX8_how x 3 w)) 5 (fX8_how x 3 w) else fX8_how x 3 w
theorem e_hwA {j : Nat} {x : Int32} {w : Wd} : OFF PAN (hwA j x w) w := by
  have h1 : OFF PAN (fX8_how x 3 w) w := OFF.rsi (fun _ => by unfold PAN; omega)
  unfold hwA
  by_cases q : j = 8
  · rw [if_pos q]
    exact OFF.tr (e_note.mono fun k j h => by unfold PAN; omega) h1
  · rw [if_neg q]
    exact h1
theorem a_f25 {k : Int32 → Wd → Option (Int32 × Wd)} {j : Nat} {w : Wd} {K : Int32 → Wd → Option γ} (hj : j < 9000) : bn2 (fX4_formals_25 k (Int32.ofNat j) w) K = lt2 (fX4_declared (Int32.ofNat 0) 0 w) fun x w2 => bn2 (k (Int32.ofNat (j + 1)) (hwA j x w2)) K := by
  unfold fX4_formals_25
  have e1 : fX4_declared 0 0 w = fX4_declared (Int32.ofNat 0) 0 w := rfl
  rw [e1]
  generalize fX4_declared (Int32.ofNat 0) 0 w = R
  rcases R with ⟨x, w2⟩
  unfold hwA
  rw [← ad1_iN j]
  dsimp only [lt2, lt]
  by_cases q : j = 8
  · rw [if_pos q, if_pos (show Int32.ofNat j = 8 by rw [q]; rfl)]
  · rw [if_neg q, if_neg (show ¬ (Int32.ofNat j = 8) from fun e => q ((eq_iN (a := j) (b := 8) (by omega) (by omega)).mp e))]
theorem a_f2 {n j : Nat} {w : Wd} {K : Int32 → Wd → Option γ} (hj : j + 1 ≤ 8192) : bn2 (oX4_formals_2 (n + 1) (Int32.ofNat (j + 1)) w) K = lt2 (fX9_take (Int32.ofNat 40) w) fun c w4 => if c = true then bn2 (fX4_formals_25 (oX4_formals_2 n) (Int32.ofNat (j + 1)) w4) K else K (Int32.ofNat (j + 1)) w4 := by
  show bn2 (fX4_formals_2 (oX4_formals_2 n) (Int32.ofNat (j + 1)) w) K = _
  unfold fX4_formals_2
  rw [if_neg (show ¬ ((8193 : Int32) ≤ Int32.ofNat (j + 1)) from nle_iN (a := 8193) (by omega) (by omega)), if_neg (show ¬ (Int32.ofNat (j + 1) = 0) from fun h => absurd ((eq_iN (a := j + 1) (b := 0) (by omega) (by omega)).mp h) (by omega)), show (40 : Int32) = Int32.ofNat 40 from rfl]
  rcases fX9_take (Int32.ofNat 40) w with ⟨_ | _, u⟩
  · rw [lt2q, lt2q, if_neg (show ¬ (false = true) by decide), if_neg (show ¬ (false = true) by decide)]
    rfl
  · rw [lt2q, lt2q, if_pos rfl, if_pos rfl]
/-- what the reference notes of a formal, and goes on -/
def fmM (rc : TX12_block) (k : Int32 → Int32 → Wd → Option (Option Int32 × Wd)) (a4 a5 x1 x4 : Int32) (w5 : Wd) : Option (Option Int32 × Wd) := bn2 (fX12_slots 2 w5) fun x6 w7 => if inb x4 5000 = true then lt (si w7 26 (Int32.toNatClampNeg x4) x6) fun w9 => if inb (gi w9 0 30) 1200 = true then if inb (gi w9 0 30) 1200 = true then lt (si w9 31 (Int32.toNatClampNeg (gi w9 0 30)) ((gi w9 31 (Int32.toNatClampNeg (gi w9 0 30))) + 1)) fun w12 => if inb (gi w12 0 30) 1200 = true then if (gi w12 31 (Int32.toNatClampNeg (gi w12 0 30))) = 9 then (bn (fX12_found 5 x1 w12) fun w15 => fX12_procedure_257 rc k a4 a5 w15) else (fX12_procedure_257 rc k a4 a5 w12) else none else none else none else none
theorem m_187 {rc : TX12_block} {k : Int32 → Int32 → Wd → Option (Option Int32 × Wd)} {a4 a5 : Int32} {w : Wd} {K : Int32 → Wd → Option (Option α × Wd)} : be (fX12_procedure_187 rc k a4 a5 w) K = be (fX12_expect 285 w) fun x1 w2 => bn2 (fX12_declare (gi w2 0 29) x1 6 0 w2) fun x4 w5 => be (fmM rc k a4 a5 x1 x4 w5) K := by
  unfold fX12_procedure_187
  rw [be_be]
  refine be_cg fun x1 w2 => ?_
  rw [be_bn2]
  rfl
theorem fm_ok {rc : TX12_block} {k : Int32 → Int32 → Wd → Option (Option Int32 × Wd)} {a4 a5 : Int32} {i pn q j tk : Nat} {w : Wd} {K : Int32 → Wd → Option (Option α × Wd)} (hsm : SM kd wr m w t d) (htk : tk ≤ m) (hi : i < 5000) (h30 : gi w 0 30 = Int32.ofNat pn) (hp : pn < 1200) (hq : gi w 35 pn = Int32.ofNat q) (hj : gi w 31 pn = Int32.ofNat j) (hj2 : j < 9000) :
    ∃ u, be (fmM rc k a4 a5 (Int32.ofNat tk) (Int32.ofNat i) w) K = be (fX12_procedure_257 rc k a4 a5 u) K ∧ OFF (fun k j' => (k = 26 ∧ j' = i) ∨ ((k = 31 ∨ k = 35) ∧ j' = pn) ∨ (k = 0 ∧ (j' = 10 ∨ j' = 11))) u w ∧ gi u 26 i = Int32.ofNat q ∧ gi u 35 pn = Int32.ofNat (q + 2) ∧ gi u 31 pn = Int32.ofNat (j + 1) ∧ FLM u = (if j = 8 then FN (FLM w) 5 (Int32.ofNat (wr tk)) else FLM w) := by
  unfold fmM
  rw [show (2 : Int32) = Int32.ofNat 2 from rfl, sl_ok h30 hp, bn2_so, if_pos (inb_iN hi (by omega)), tc_iN (by omega), ltq]
  have e30 : gi (si (si w 35 pn (gi w 35 pn + Int32.ofNat 2)) 26 i (gi w 35 pn)) 0 30 = Int32.ofNat pn := by
    rw [gi_si1 (by omega), gi_si1 (by omega)]; exact h30
  have e31 : gi (si (si w 35 pn (gi w 35 pn + Int32.ofNat 2)) 26 i (gi w 35 pn)) 31 pn = Int32.ofNat j := by
    rw [gi_si1 (by omega), gi_si1 (by omega)]; exact hj
  have e26 : gi (si (si w 35 pn (gi w 35 pn + Int32.ofNat 2)) 26 i (gi w 35 pn)) 26 i = Int32.ofNat q := by
    rw [gi_si0]; exact hq
  have e35 : gi (si (si w 35 pn (gi w 35 pn + Int32.ofNat 2)) 26 i (gi w 35 pn)) 35 pn = Int32.ofNat (q + 2) := by
    rw [gi_si1 (by omega), gi_si0, hq, add_iN]
  have hO1 : OFF (fun k j' => (k = 26 ∧ j' = i) ∨ ((k = 31 ∨ k = 35) ∧ j' = pn)) (si (si w 35 pn (gi w 35 pn + Int32.ofNat 2)) 26 i (gi w 35 pn)) w := OFF.tr (OFF.si (by omega)) (OFF.si (by omega))
  generalize si (si w 35 pn (gi w 35 pn + Int32.ofNat 2)) 26 i (gi w 35 pn) = w9 at e30 e31 e26 e35 hO1 ⊢
  rw [e30, if_pos (inb_iN hp (by omega)), if_pos (inb_iN hp (by omega)), tc_iN (by omega), ltq, e31, ad1_iN]
  have f30 : gi (si w9 31 pn (Int32.ofNat (j + 1))) 0 30 = Int32.ofNat pn := by rw [gi_si1 (by omega)]; exact e30
  have f31 : gi (si w9 31 pn (Int32.ofNat (j + 1))) 31 pn = Int32.ofNat (j + 1) := gi_si0 _ _ _ _
  have f26 : gi (si w9 31 pn (Int32.ofNat (j + 1))) 26 i = Int32.ofNat q := by rw [gi_si1 (by omega)]; exact e26
  have f35 : gi (si w9 31 pn (Int32.ofNat (j + 1))) 35 pn = Int32.ofNat (q + 2) := by rw [gi_si1 (by omega)]; exact e35
  have hO2 : OFF (fun k j' => (k = 26 ∧ j' = i) ∨ ((k = 31 ∨ k = 35) ∧ j' = pn)) (si w9 31 pn (Int32.ofNat (j + 1))) w := OFF.tr (OFF.si (by omega)) hO1
  generalize si w9 31 pn (Int32.ofNat (j + 1)) = w12 at f30 f31 f26 f35 hO2 ⊢
  have hfl : FLM w12 = FLM w := by
    unfold FLM
    rw [(hO2 0 10 (by omega)).1, (hO2 0 11 (by omega)).1]
  rw [f30, if_pos (inb_iN hp (by omega)), tc_iN (by omega), f31]
  by_cases q8 : j = 8
  · rw [if_pos (show Int32.ofNat (j + 1) = 9 by rw [q8]; rfl), if_pos q8]
    obtain ⟨u, u1, u2, u3⟩ := found_ok (num := 5) (hsm.off2 hO2 (fun k j hk => by omega)) htk
    rw [u1]
    refine ⟨u, rfl, OFF.tr (u3.mono fun k j h => Or.inr (Or.inr h)) (hO2.mono fun k j h => by omega), (u3 26 i (by omega)).1.trans f26, (u3 35 pn (by omega)).1.trans f35, (u3 31 pn (by omega)).1.trans f31, by rw [u2, hfl]⟩
  · rw [if_neg (show ¬ (Int32.ofNat (j + 1) = 9) from fun e => q8 (by have := (eq_iN (a := j + 1) (b := 9) (by omega) (by omega)).mp e; omega)), if_neg q8]
    exact ⟨w12, rfl, hO2.mono fun k j h => by omega, f26, f35, f31, hfl⟩
theorem m_257 {rc : TX12_block} {k : Int32 → Int32 → Wd → Option (Option Int32 × Wd)} {a4 a5 : Int32} {w : Wd} {K : Int32 → Wd → Option (Option α × Wd)} : be (fX12_procedure_257 rc k a4 a5 w) K = be (fX12_skip 44 w) fun c w2 => if c = true then be (k a4 a5 w2) K else (lt (si w2 0 8 ((gi w2 0 8) - 1)) fun w5 => be (fX12_expect 41 w5) fun _ w7 => be (fX12_procedure_283 rc a4 a5 w7) K) := by
  unfold fX12_procedure_257
  rw [be_be]
  refine be_cg fun c w2 => ?_
  cases c
  · rw [if_neg (by decide), if_neg (by decide), ltq, ltq, be_be]
  · rw [if_pos rfl, if_pos rfl]
theorem dcC_0c {i : Nat} (h : i ≠ 1) : dcC C 0 i = C i := by
  unfold dcC
  by_cases q : i = 6
  · rw [q, upC_s, if_neg (by decide)]
    rfl
  · rw [upC_n q, upC_n h]
/-- counters, but for symbols; the TOKEN of a procedure's NAME -/
def KEP (Cb : Nat → Nat) (c1 tok : Nat) (C TK : Nat → Nat) : Prop := (∀ i, i ≠ 1 → C i = Cb i) ∧ TK c1 = tok
/-- what's kept while formals are declared: j of them -/
def FMI (kd wr nm : Nat → Nat) (c1 pn p sp sf l ty tok j : Nat) (C0 : Nat → Nat) (t0 : Nat) (stk0 obl : List Nat) (prs0 : PRL) (wA0 wM0 : Wd) (C TK : Nat → Nat) (t : Nat) (wA wM : Wd) : Prop :=
  C 1 = c1 + 1 + j ∧ pn < C 4 ∧ C0 1 ≤ c1 ∧ C0 4 ≤ pn ∧ tok < t ∧ PF C0 t0 stk0 prs0 obl wA0 wM0 C t wA wM ∧ HD0 c1 pn p sp sf l ty tok wA wM ∧ gi wM 31 pn = Int32.ofNat j ∧ ∀ i, i < j → FMV kd TK c1 pn sf (l + 1) 0 t i wA wM ∧ gi wA 16 (c1 + 1 + i + 1) = 3
theorem fms_loop (hT : TOKS kd wr nm vv m z gA gM) {s c1 pn p sp l ty tok t0 tl : Nat} {prs1 prs0 : PRL} {stk0 : List Nat} {C0 Cb : Nat → Nat} {wA0 wM0 : Wd} {KA : Int32 → Wd → Option γ} {KM : Int32 → Wd → Option (Option α × Wd)} {rc : TX12_block} {a4 a5 : Int32} {Q : Prop} (hb : 2800 ≤ b) (hlen : prs1.length = l + 1)
    (hPF : ∀ q, STBJ (s :: stk) ((pn, 6, q) :: prs1) obl (PF C0 t0 stk0 prs0 obl wA0 wM0))
    (HX : ∀ lv' t' fa' uA uM C' TK' SL' q' j, j + 1 ≤ 8192 → STJ kd wr nm vv m z gA gM lv' 1 c1 (s :: stk) ((pn, 6, q') :: prs1) C' TK' SL' t' d b fa' uA uM → (lv' = true → (Q ∧ tl + 2 * j + 1 ≤ t') ∧ t' ≤ m ∧ q' = 1 + 2 * (j + 1) ∧ KEP Cb c1 tok C' TK' ∧ FMI kd wr nm c1 pn p sp s l ty tok (j + 1) C0 t0 stk0 obl prs0 wA0 wM0 C' TK' t' uA uM) → (lv' = false → t' = z - 1) → GLJ kd wr nm z gA gM wd lv' stkF fa' B (KA (Int32.ofNat (j + 1)) uA) (lt (si uM 0 8 ((gi uM 0 8) - 1)) fun w5 => be (fX12_expect 41 w5) fun _ w7 => be (fX12_procedure_283 rc a4 a5 w7) KM) S)
    {fo fm : Nat} : ∀ (n : Nat) (lv : Bool) (C TK : Nat → Nat) (SL : Nat → List Nat) (t : Nat) (fa : Int32) (wA wM : Wd) (q j : Nat), z ≤ t + n → j + 1 ≤ t → STJ kd wr nm vv m z gA gM lv 0 c1 (s :: stk) ((pn, 6, q) :: prs1) C TK SL t d b fa wA wM →
      (lv = true → ((Q ∧ tl + 2 * j ≤ t) ∧ d ≤ 40) ∧ q = 1 + 2 * j ∧ KEP Cb c1 tok C TK ∧ FMI kd wr nm c1 pn p sp s l ty tok j C0 t0 stk0 obl prs0 wA0 wM0 C TK t wA wM) → (lv = false → t = z - 1) →
      GLJ kd wr nm z gA gM wd lv stkF fa B (bn2 (fX4_formals_25 (oX4_formals_2 (fo + n + 1)) (Int32.ofNat j) wA) KA) (be (fX12_procedure_187 rc (oX12_procedure_187 rc (fm + n)) a4 a5 wM) KM) S := by
  intro n
  induction n with
  | zero =>
    intro lv C TK SL t fa wA wM q j hz hj hst
    have := hst.in1.tz
    omega
  | succ n ih =>
    intro lv C TK SL t fa wA wM q j hz hj hst hl hdd
    have hin := hst.in1
    have htz := hin.tz
    have hz9 := hin.z9
    rw [a_f25 (by omega), m_187]
    refine J.declare (sort := 0) (kind := 6) (type := 0) (SC := fun w2 => gi w2 0 29) (P := fun C' t' a c => lv = true → PF C0 t0 stk0 prs0 obl wA0 wM0 C' t' a c ∧ PF C t (s :: stk) ((pn, 6, q) :: prs1) obl wA wM C' t' a c) hT (STBJ.if fun _ => STBJ.and (hPF q) PF.st0) hst (fun h _ => ⟨(hl h).2.2.2.2.2.2.2.2.1, STEP.rf⟩) hb (by omega) (by omega) (by omega) (fun h => ⟨fun hk => m_expect (x := 285) (k := 2) (hst.jl h).2.2.1 (hl h).1.2 rfl (by omega) hk, fun hk => m_expect_no (x := 285) (k := 2) (hst.jl h).2.2.1 rfl (by omega) (Or.inr hk) (by omega)⟩) (fun h => by
      show gi (si wM 0 7 (Int32.ofNat (t + 1))) 0 29 = _
      rw [gi_si1 (by omega)]
      exact (hst.jl h).2.2.2.2.2.2.2.2.2.1) (fun lv1 t1 fa1 x vA vM TK1 SL1 hst1 hl1 hd1 => ?_)
    have hin1 := hst1.in1
    rw [show fo + (n + 1) + 1 = (fo + n + 1) + 1 by omega]
    cases lv1
    · have ht1 := hd1 rfl
      have hst2 := hst1.dn (sl' := 1) (us' := c1) (prs' := (pn, 6, q) :: prs1) (C' := C) (TK' := TK1) (SL' := SL1) (d' := d) (uM := vM) rfl (e_hwA (j := j) (x := x))
      rw [a_f2 (by omega), a_take_no hst2.in1.1 (by omega) (by rw [ht1]; have := hin1.1.2.2.2.1 (z - 1) (by omega); omega), lt2q, if_neg (show ¬ (false = true) by decide)]
      refine GLJ.ref (rM' := lt (si vM 0 8 ((gi vM 0 8) - 1)) fun w5 => be (fX12_expect 41 w5) fun _ w7 => be (fX12_procedure_283 rc a4 a5 w7) KM) (fun h => absurd h (by decide)) ?_
      exact HX false t1 fa1 _ vM C TK1 SL1 q j (by omega) hst2 (fun h => absurd h (by decide)) hd1
    · obtain ⟨w1, w2, w3, w4, w5, w6, w7, w8, l', pr, sg', q', r', e1, e2, hN, e4, e5⟩ := hl1 rfl
      obtain ⟨⟨⟨y0, ytl⟩, yd⟩, yq, yc, x1, x2, x3, x4, x5, x6, x7, x8, x9⟩ := hl w1
      obtain ⟨e6, e7⟩ := List.cons.inj e1
      obtain ⟨e8, e9⟩ := Prod.mk.inj e6
      obtain ⟨e10, e11⟩ := Prod.mk.inj e9
      rw [← e8] at hN e5
      rw [← e11] at e5
      rw [← e7, hlen] at e2
      rw [e2] at hN e4
      rw [← e10] at e4
      obtain ⟨v1, v2⟩ := w8 w1
      have hJ1 := (hst1.jl rfl).2
      have hJ0 := (hst.jl w1).2
      have hwt := hT.1 t1
      have hcc := hJ1.2.2.2.2.2.1
      have hc1 : dcC C 0 1 = C 1 + 1 := dcC_1
      have hc4 : dcC C 0 4 = C 4 := dcC_0c (by omega)
      have htq := hJ1.topq
      obtain ⟨⟨n1, n2, n3, n4, n5, n6, n7, n8, n9, n10, n11⟩, m1, m2, m3, m4, m5, m6, m7, m8, m9⟩ := hN
      have h31 : gi vM 31 pn = Int32.ofNat j := ((v2.2.2.2.1 31 pn (Or.inr (Or.inr (Or.inr (Or.inr (Or.inr (Or.inl ⟨by omega, x2, fun hh => by omega⟩))))))).1).trans x8
      obtain ⟨u, u1, u2, u3, u4, u5, u6⟩ := fm_ok (rc := rc) (k := oX12_procedure_187 rc (fm + (n + 1))) (a4 := a4) (a5 := a5) (K := KM) (tk := t) (i := C 1) (pn := pn) (q := q) (j := j) (w := vM) hJ1.2.1 (by omega) (by omega) htq.2.1 (by omega) e5 h31 (by omega)
      rw [u1]
      -- the class's note
      have hhow : hwA j x vA = if j = 8 then fX1_note (Int32.ofNat t) 5 (si vA 16 (C 1 + 1) 3) else si vA 16 (C 1 + 1) 3 := by
        unfold hwA
        have h1 : fX8_how x 3 vA = si vA 16 (C 1 + 1) 3 := by
          unfold fX8_how
          rw [w5, rsi_iN (by omega) (by omega)]
          rfl
        rw [h1]
        have h2 : fX8_token x (si vA 16 (C 1 + 1) 3) = Int32.ofNat t := by
          unfold fX8_token
          rw [w5, ltq, rgi_iN (by omega) (by omega), gi_si1 (by omega)]
          exact n1
        rw [h2]
      have hYO : OFF (fun k j' => (k = 16 ∧ j' = C 1 + 1) ∨ (k = 3 ∧ (j' = 6 ∨ j' = 7))) (hwA j x vA) vA := by
        rw [hhow]
        by_cases q8 : j = 8
        · rw [if_pos q8]
          exact OFF.tr (e_note.mono fun k j h => Or.inr h) (OFF.si (Or.inl ⟨rfl, rfl⟩))
        · rw [if_neg q8]
          exact OFF.si (Or.inl ⟨rfl, rfl⟩)
      have hY16 : gi (hwA j x vA) 16 (C 1 + 1) = 3 := by
        rw [hhow]
        by_cases q8 : j = 8
        · rw [if_pos q8, (e_note 16 (C 1 + 1) (by omega)).1, gi_si0]
        · rw [if_neg q8, gi_si0]
      have hYF : FLA (hwA j x vA) = if j = 8 then FN (FLA vA) 5 (Int32.ofNat (wr t)) else FLA vA := by
        have h1 : FLA (si vA 16 (C 1 + 1) 3) = FLA vA := by
          unfold FLA
          rw [gi_si1 (by omega), gi_si1 (by omega)]
        rw [hhow]
        by_cases q8 : j = 8
        · rw [if_pos q8, if_pos q8, note_fl, FLA_fl, h1]
          have hw := a_where hin1.1 (a := t) (by omega)
          have hw2 : fX9_where (Int32.ofNat t) (si vA 16 (C 1 + 1) 3) = fX9_where (Int32.ofNat t) vA := by
            unfold fX9_where
            rw [rgi_iN (by omega) (by omega), rgi_iN (by omega) (by omega), gi_si1 (by omega)]
          rw [hw2, hw]
        · rw [if_neg q8, if_neg q8, h1]
      generalize hwA j x vA = YA at hYO hY16 hYF ⊢
      have fA : ∀ k j', ¬ ((k = 16 ∧ j' = C 1 + 1) ∨ (k = 3 ∧ (j' = 6 ∨ j' = 7))) → gi YA k j' = gi vA k j' := fun k j' hk => (hYO k j' hk).1
      have fM : ∀ k j', ¬ ((k = 26 ∧ j' = C 1) ∨ ((k = 31 ∨ k = 35) ∧ j' = pn) ∨ (k = 0 ∧ (j' = 10 ∨ j' = 11))) → gi u k j' = gi vM k j' := fun k j' hk => (u2 k j' hk).1
      have hd0 : HD0 c1 pn p sp s l ty tok vA vM := x7.step v2 (by omega) x5 x2
      have hxu : EXF vM u := EXF.slot u2 (fun k j hk => by omega) e5 u4 ⟨by omega, by have := (hJ1.sl35 hT).2.1; have := hJ1.2.2.2.2.2.2.1.2.2.2.2.2.2.2.1; have := htq.1; have := hT.1 t1; have := hJ1.2.2.2.2.2.1; omega⟩ fun hh => by
        show (FLM u).1 ≠ 0
        rw [u6]
        split
        · exact FN_ne (by decide)
        · exact hh
      have hd1 : HD0 c1 pn p sp s l ty tok YA u := hd0.agr (fun k hk => fA k _ (by omega)) (fA 25 _ (by omega)) (fun k hk => fM k _ (by omega)) (fun k hk => fM k _ (by omega)) hxu
      have h29 : ∀ i, i < c1 → gi vM 29 pn ≠ Int32.ofNat i := fun i hi => by
        rw [hd0.2.2.1]
        exact of_ne (by omega) (by omega) (by omega)
      have hst2 : STJ kd wr nm vv m z gA gM true 1 c1 (s :: stk) ((pn, 6, q + 2) :: prs1) (dcC C 0) TK1 SL1 t1 d b fa1 YA u := hst1.upd (fun h => absurd h (by decide)) (fun _ => ⟨hYO.mono fun k j hk => by unfold PAU; omega, u2.mono fun k j hk => by unfold PMU; omega, ?_, fun l' hl' => fA 36 l' (by omega), by rw [fA 36 _ (by omega), hlen]; exact e4, by omega, u4, by omega, h29, Or.inr ⟨j + 1, by omega, u5, fun h8 => by
        by_cases q8 : j = 8
        · have h9 : (FLM u).1 ≠ 0 := by rw [u6, if_pos q8]; exact FN_ne (by decide)
          exact h9
        · have hpn1 : 1 ≤ pn := by
            have s9 := hJ1.2.2.2.2.2.2.2.2.2.2.2.2.1.2.2.2.2.2.2.1
            cases hp1 : prs1 with
            | nil => rw [hp1] at hlen; simp at hlen
            | cons y r =>
              have := s9 y (by rw [hp1]; exact List.mem_cons_self)
              omega
          have h10 := hJ1.2.2.2.2.2.2.2.2.2.2.2.2.2.2.2.2.1 pn j hpn1 htq.2.2 (by omega) h31 (by omega)
          have h9 : (FLM u).1 ≠ 0 := by rw [u6, if_neg q8]; exact h10
          exact h9⟩⟩)
      · have hPFu : PF C0 t0 stk0 prs0 obl wA0 wM0 (dcC C 0) t1 YA u := STEP.at2 v1 (hYO.mono fun k j hk => by unfold NQA2; omega) (u2.mono fun k j hk => by unfold NQM2; omega) v1.1 v1.2.1 hxu
        have hnew : FMV kd TK1 c1 pn s (l + 1) 0 t1 j YA u ∧ gi YA 16 (c1 + 1 + j + 1) = 3 := by
          have hx : c1 + 1 + j = C 1 := x1.symm
          unfold FMV
          rw [hx, w6, show upF TK (C 1) t (C 1) = t from if_pos rfl]
          have h16 : gi YA 16 (C 1 + 1) = 3 := hY16
          refine ⟨⟨w2, by omega, ⟨by rw [fA 21 _ (by omega)]; exact n1, by rw [fA 25 _ (by omega)]; exact n11, by rw [fA 17 _ (by omega)]; exact n4, by rw [fA 19 _ (by omega)]; exact n7, by rw [fM 19 _ (by omega)]; exact m1, by rw [fM 22 _ (by omega)]; exact m3, by rw [fM 23 _ (by omega)]; exact m4, by rw [u3, yq], (DC1.nw m4 w7).ext (fM 23 _ (by omega)) (fA 29 _ (by omega)) hxu⟩, ⟨⟨0, by omega, by rw [fM 20 _ (by omega)]; exact m2, by rw [fA 15 _ (by omega)]; exact n3, fun h => by rw [fM 24 _ (by omega), m5] at h; exact absurd h (by decide), fun _ => rfl⟩, 0, 0, by omega, by omega, by rw [fM 24 _ (by omega)]; exact m5, by rw [fA 14 _ (by omega)]; exact n2, by rw [fA 23 _ (by omega)]; exact n9, Or.inl ⟨rfl, rfl, by rw [fM 25 _ (by omega)]; exact m6⟩⟩, by rw [fM 28 _ (by omega)]; exact m8, Or.inr h16⟩, h16⟩
        have hfmi : FMI kd wr nm c1 pn p sp s l ty tok (j + 1) C0 t0 stk0 obl prs0 wA0 wM0 (dcC C 0) TK1 t1 YA u := by
          refine ⟨by omega, by omega, x3, x4, by omega, hPFu, hd1, u5, fun i hi => ?_⟩
          by_cases q9 : i = j
          · rw [q9]; exact hnew
          · obtain ⟨z1, z2⟩ := x9 i (by omega)
            have z3 := (z1.step v2 (by omega)).tk (TK' := TK1) (by rw [w6]; exact if_neg (by omega))
            refine ⟨z3.agr (Nat.le_refl _) (Nat.le_refl _) (fun k hk => fA k _ (by omega)) (fun j' hj' => fA 25 j' (by omega)) (fun k hk => fM k _ (by omega)) hxu, ?_⟩
            rw [fA 16 _ (by omega), v2.2.2.1 16 _ (Or.inl ⟨by omega, by omega, by omega⟩)]
            exact z2
        have hcb : KEP Cb c1 tok (dcC C 0) TK1 := ⟨fun i hi => (dcC_0c hi).trans (yc.1 i hi), by rw [w6]; exact (if_neg (show ¬ (c1 = C 1) by omega)).trans yc.2⟩
        rw [a_f2 (by omega), m_257]
        refine J.take (c := 40) (P := fun C' t' a c => PF C0 t0 stk0 prs0 obl wA0 wM0 C' t' a c ∧ PF (dcC C 0) t1 (s :: stk) ((pn, 6, q + 2) :: prs1) obl YA u C' t' a c) hT (STBJ.and (hPF _) PF.st0) hst2 (fun _ => ⟨hPFu, STEP.rf⟩) (by omega) (fun _ => yd) (by omega) rfl (fun h40 sA sM hst4 hl4 => ?_) (fun h40 => ?_)
        · obtain ⟨k1, k2, k3⟩ := hl4 rfl
          rw [if_pos rfl, if_pos rfl]
          have e3 : ∀ w, oX12_procedure_187 rc (fm + (n + 1)) a4 a5 w = fX12_procedure_187 rc (oX12_procedure_187 rc (fm + n)) a4 a5 w := fun _ => rfl
          rw [e3]
          refine ih true (dcC C 0) TK1 SL1 (t1 + 1) fa1 sA sM _ (j + 1) (by omega) (by omega) hst4 (fun _ => ⟨⟨⟨y0, by omega⟩, yd⟩, by omega, hcb, ?_⟩) (fun h => absurd h (by decide))
          obtain ⟨z1, z2, z3, z4, z5, z6, z7, z8, z9⟩ := hfmi
          refine ⟨z1, z2, z3, z4, by omega, k2, z7.step k3 (by omega) z5 z2, ((k3.2.2.2.1 31 pn (Or.inr (Or.inr (Or.inr (Or.inr (Or.inr (Or.inl ⟨by omega, z2, fun hh => by omega⟩))))))).1).trans z8, fun i hi => ?_⟩
          obtain ⟨a1, a2⟩ := z9 i hi
          exact ⟨a1.step k3 (by omega), (k3.2.2.1 16 _ (Or.inl ⟨by omega, by omega, by omega⟩)).trans a2⟩
        · rw [if_neg (show ¬ (false = true) by decide), if_neg (show ¬ (false = true) by decide)]
          exact HX true t1 fa1 YA u (dcC C 0) TK1 SL1 _ j (by omega) hst2 (fun _ => ⟨⟨y0, by omega⟩, by omega, by omega, hcb, hfmi⟩) (fun h => absurd h (by decide))
      · unfold NTF
        rw [hYF, u6]
        by_cases q8 : j = 8
        · rw [if_pos q8, if_pos q8]
          exact Or.inr ⟨5, wr t, by decide, hT.1 t, rfl, rfl⟩
        · rw [if_neg q8, if_neg q8]
          exact Or.inl ⟨rfl, rfl⟩
end JT
