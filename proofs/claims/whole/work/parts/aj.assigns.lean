/-! BOTH SIDES: assignments -/
section JT
variable {kd wr nm : Nat → Nat} {vv : Nat → Int64} {m z : Nat} {gA gM : Wd} {lv : Bool} {sl us B : Nat} {stk obl stkF : List Nat} {prs : PRL} {C TK : Nat → Nat} {SL : Nat → List Nat} {t d b : Nat} {fa : Int32} {wA wM : Wd} {γ α : Type} {wd : γ → Wd} {S : γ → α → Wd → Prop} {P : (Nat → Nat) → Nat → Wd → Wd → Prop}
theorem a_named_a {base : Nat} {a1 : Int32} {w : Wd} (h : IN1 kd wr z w t base fa) (hk : kd t = 2) (h1 : kd (t + 1) = 50 ∨ kd (t + 1) = 45) : fX4_named a1 w = bn (fX4_assignment a1 w) some := by
  have hk50 := h.k50
  have ht1 : t + 1 < z := kdlt h.1 (by omega)
  unfold fX4_named
  rw [ltq, a_at h.1, ad1_iN t, ltq, a_kindOf h ht1]
  rcases h1 with h1 | h1
  · rw [if_pos (show Int32.ofNat (kd (t + 1)) = 50 by rw [h1]; rfl)]
  · rw [if_neg (show ¬ (Int32.ofNat (kd (t + 1)) = 50) by rw [h1]; decide), if_pos (show Int32.ofNat (kd (t + 1)) = 45 by rw [h1]; rfl)]
theorem a_asg {a1 : Int32} {p : Int32 × Wd} (h : fX4_named a1 p.2 = bn (fX4_assignment a1 p.2) some) {K : Int32 → Wd → Option γ} : bn2 (lt2 p fun _ w4 => bn (fX4_named a1 w4) fun w5 => some ((0 : Int32), w5)) K = bn2 (RX2_typed 900 7 a1 1 0 p.2) fun x1 w2 => lt (fX9_need (Int32.ofNat 50) w2) fun w3 => bn (oX4_assignment_27 FU a1 x1 1 true 0 w3) fun w => K 0 w := by
  show bn2 (bn (fX4_named a1 p.2) fun w5 => some ((0 : Int32), w5)) K = _
  rw [h]
  unfold fX4_assignment
  generalize RX2_typed 900 7 a1 1 0 p.2 = R
  rcases R with _ | ⟨x, w⟩
  · rfl
  · show bn2 (bn (bn (oX4_assignment_27 FU a1 x 1 true 0 (fX9_need (Int32.ofNat 50) w)) some) fun w5 => some ((0 : Int32), w5)) K = bn (oX4_assignment_27 FU a1 x 1 true 0 (fX9_need (Int32.ofNat 50) w)) fun w => K 0 w
    generalize oX4_assignment_27 FU a1 x 1 true 0 (fX9_need (Int32.ofNat 50) w) = R
    rcases R with _ | u <;> rfl
theorem a_isv {w : Wd} (ht : t < 8193) : fX9_isVariable (Int32.ofNat t) w = decide (gi w 8 t = 1 ∨ gi w 8 t = 2 ∨ gi w 8 t = 3) := by
  unfold fX9_isVariable
  rw [ltq, fm_at ht]
  by_cases h1 : gi w 8 t = 1
  · rw [if_pos h1, decide_eq_true (Or.inl h1)]
  · by_cases h2 : gi w 8 t = 2
    · rw [if_neg h1, if_pos h2, decide_eq_true (Or.inr (Or.inl h2))]
    · by_cases h3 : gi w 8 t = 3
      · rw [if_neg h1, if_neg h2, if_pos h3, decide_eq_true (Or.inr (Or.inr h3))]
      · rw [if_neg h1, if_neg h2, if_neg h3, decide_eq_false (by rintro (h | h | h) <;> contradiction)]
theorem a_asg1 {n base j : Nat} {a1 x1 : Int32} {w : Wd} (h : IN1 kd wr z w t base fa) (hj : j ≤ 8192) : oX4_assignment_27 (n + 1) a1 x1 1 true (Int32.ofNat j) w = bn2 (RX2_typed 900 2 a1 0 0 w) fun x w5 => fX4_assignment_114 (oX4_assignment_27 n) x a1 x1 1 (Int32.ofNat j) (Int32.ofNat t) false w5 := by
  have htz := h.tz
  have hz9 := h.z9
  have hf := (h.1.2.2.2.2.2.2.2.2.2 rfl t (Nat.le_refl _) htz).1
  show fX4_assignment_27 (oX4_assignment_27 n) a1 x1 1 true (Int32.ofNat j) w = _
  unfold fX4_assignment_27
  rw [if_pos rfl, if_neg (show ¬ ((8193 : Int32) ≤ Int32.ofNat j) from nle_iN (a := 8193) (by omega) (by omega)), ltq, a_at h.1, ltq, a_isv (by omega), decide_eq_false (by rcases hf with hf | ⟨_, hf, _⟩ <;> rw [hf] <;> decide), if_neg (by decide)]
  unfold fX4_assignment_87
  rw [if_neg (by decide)]
theorem a_asg2 {j : Nat} {a1 x1 x : Int32} {k : Int32 → Int32 → Int32 → Bool → Int32 → Wd → Option Wd} {w : Wd} (h5 : gi w 3 5 = 0) (ht : t < 8193) : fX4_assignment_114 k x a1 x1 1 (Int32.ofNat j) (Int32.ofNat t) false w = if gi w 8 t = 1 ∨ gi w 8 t = 2 ∨ gi w 8 t = 3 then lt2 (fX9_take (Int32.ofNat 50) w) fun c w2 => k a1 x1 1 c (Int32.ofNat (j + 1)) w2 else k a1 x1 1 false (Int32.ofNat (j + 1)) w := by
  unfold fX4_assignment_114
  rw [ltq, check_0 h5, if_neg (by decide)]
  unfold fX4_assignment_139
  rw [ltq, if_neg (by decide)]
  unfold fX4_assignment_162
  rw [if_neg (by decide), ltq, a_isv ht, show (1 : Int32) + b2i false = 1 from rfl]
  by_cases q : gi w 8 t = 1 ∨ gi w 8 t = 2 ∨ gi w 8 t = 3
  · rw [decide_eq_true q, if_pos rfl, if_pos q]
    unfold fX4_assignment_179
    show (lt2 (fX9_take (Int32.ofNat 50) w) fun x1' w2 => if x1' = true then (lt (Int32.ofNat j + 1) fun x4 => k a1 x1 1 true x4 w2) else (lt (Int32.ofNat j + 1) fun x5 => k a1 x1 1 false x5 w2)) = _
    rw [ad1_iN j]
    rcases fX9_take (Int32.ofNat 50) w with ⟨c, u⟩
    cases c <;> rfl
  · rw [decide_eq_false q, if_neg (by decide), if_neg q, ltq, ad1_iN j]
theorem a_asg3 {n : Nat} {a1 x1 a5 : Int32} {w : Wd} : oX4_assignment_27 (n + 1) a1 x1 1 false a5 w = some (fX0_put_ 26 1 w).2 := rfl
theorem m_id {r : Option (Option α × Wd)} : be r (fun x w => some (some x, w)) = r := by
  rcases r with _ | ⟨_ | x, w⟩ <;> rfl
theorem m_asg2 {k : Int32 → Int32 → Int32 → Int32 → Wd → Option (Option Int32 × Wd)} {a1 a4 a5 a6 : Int32} {w : Wd} {n2 : Nat} (hs : SM kd wr m w t d) (hn : n2 < 24000) : (if inb (Int32.ofNat n2) 24000 = true then if (gi w 7 (Int32.toNatClampNeg (Int32.ofNat n2))) = 3 then (fX12_setOrCall_119 k a1 a4 a5 a6 (Int32.ofNat n2) w) else (if inb (Int32.ofNat n2) 24000 = true then if (gi w 7 (Int32.toNatClampNeg (Int32.ofNat n2))) = 4 then (fX12_setOrCall_119 k a1 a4 a5 a6 (Int32.ofNat n2) w) else (fX12_setOrCall_134 k false a1 a4 a5 a6 (Int32.ofNat n2) w) else none) else none) = if (gi w 7 n2 = 3 ∨ gi w 7 n2 = 4) ∧ kd t = 50 then fX12_setOrCall_134 k true a1 a4 a5 a6 (Int32.ofNat n2) w else fX12_setOrCall_134 k false a1 a4 a5 a6 (Int32.ofNat n2) w := by
  rw [if_pos (inb_iN hn (by omega)), tc_iN (by omega), if_pos (inb_iN hn (by omega))]
  have e : fX12_setOrCall_119 k a1 a4 a5 a6 (Int32.ofNat n2) w = if kd t = 50 then fX12_setOrCall_134 k true a1 a4 a5 a6 (Int32.ofNat n2) w else fX12_setOrCall_134 k false a1 a4 a5 a6 (Int32.ofNat n2) w := by
    unfold fX12_setOrCall_119
    rw [m_kind hs]
    show (if Int32.ofNat (kM (kd t)) = 290 then _ else _) = _
    by_cases q : kd t = 50
    · rw [if_pos ((kq hs.k50 (x := 290) (k := 50) rfl (by omega)).mpr q), if_pos q]
    · rw [if_neg (fun e => q ((kq hs.k50 (x := 290) (k := 50) rfl (by omega)).mp e)), if_neg q]
  rw [e]
  by_cases h3 : gi w 7 n2 = 3
  · rw [if_pos h3]
    by_cases q : kd t = 50
    · rw [if_pos q, if_pos ⟨Or.inl h3, q⟩]
    · rw [if_neg q, if_neg (fun h => q h.2)]
  · rw [if_neg h3]
    by_cases h4 : gi w 7 n2 = 4
    · rw [if_pos h4]
      by_cases q : kd t = 50
      · rw [if_pos q, if_pos ⟨Or.inr h4, q⟩]
      · rw [if_neg q, if_neg (fun h => q h.2)]
    · rw [if_neg h4, if_neg (fun h => h.1.elim h3 h4)]
theorem EXTL.src {lo pd : Nat} {Q : Nat → Nat → Prop} {c c2 f : Wd} (h : EXTL lo C stk prs obl pd c2 f) (he : OFF Q c2 c) (hQ : ∀ k j, Q k j → k = 0 ∨ k = 11 ∧ (j = pd ∨ j < lo)) : EXTL lo C stk prs obl pd c f := by
  intro k j hk
  have h1 := h k j hk
  have h2 := he k j (fun hq => by have := hQ k j hq; omega)
  exact ⟨h1.1.trans h2.1, h1.2.trans h2.2⟩
theorem STEP.qx {Q : Nat → Nat → Prop} {C' C2 : Nat → Nat} {t' : Nat} {uA uM vM : Wd} (h : STEP C t stk prs obl wA wM C' t' uA uM) (ho : OFF Q vM uM) (hQ : ∀ k j, Q k j → k = 0 ∨ k = 11 ∧ C 0 ≤ j) (hC : LEC C C2) (hx : EXF uM vM) : STEP C t stk prs obl wA wM C2 t' uA vM := by
  obtain ⟨_, s2, s3, s4, s5⟩ := h
  refine ⟨hC, s2, s3, fun k j hk => ?_, s5.tr hx⟩
  have h1 := s4 k j hk
  have h2 := ho k j (fun hq => by have := hQ k j hq; omega)
  exact ⟨h2.1.trans h1.1, h2.2.trans h1.2⟩
theorem STEP.q {Q : Nat → Nat → Prop} {C' C2 : Nat → Nat} {t' : Nat} {uA uM vM : Wd} (h : STEP C t stk prs obl wA wM C' t' uA uM) (ho : OFF Q vM uM) (hQ : ∀ k j, Q k j → k = 0 ∨ k = 11 ∧ C 0 ≤ j) (hC : LEC C C2) (h10 : ∀ k j, Q k j → ¬ (k = 0 ∧ (j = 10 ∨ j = 28 ∨ j = 42 ∨ j = 53)) := by intro k j hk; first | omega | (dsimp only at hk; omega)) : STEP C t stk prs obl wA wM C2 t' uA vM := by
  obtain ⟨_, s2, s3, s4, s5⟩ := h
  refine ⟨hC, s2, s3, fun k j hk => ?_, s5.tr (EXF.off ho (fun k j hk => by have := hQ k j hk; have := h10 k j hk; omega))⟩
  have h1 := s4 k j hk
  have h2 := ho k j (fun hq => by have := hQ k j hq; omega)
  exact ⟨h2.1.trans h1.1, h2.2.trans h1.2⟩
end JT
