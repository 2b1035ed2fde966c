/-! BOTH SIDES: a DECL of VARIABLES -/
section JT
variable {kd wr nm : Nat → Nat} {vv : Nat → Int64} {m z : Nat} {gA gM : Wd} {lv : Bool} {sl us B : Nat} {stk obl stkF : List Nat} {prs : PRL} {C TK : Nat → Nat} {SL : Nat → List Nat} {t d b : Nat} {fa : Int32} {wA wM : Wd} {γ α : Type} {wd : γ → Wd} {S : γ → α → Wd → Prop} {P : (Nat → Nat) → Nat → Wd → Wd → Prop}
theorem v_20 {ow : Bool} {n : Nat} {a1 : Int32} {w : Wd} : oX4_variables_2 (n + 1) a1 ow 0 w = fX4_variables_25 (oX4_variables_2 n) a1 ow (Int32.ofNat 0) w := by
  show fX4_variables_2 (oX4_variables_2 n) a1 ow 0 w = _
  unfold fX4_variables_2
  rw [if_neg (by decide), if_pos rfl]
  rfl
/-- NAMES of VARIABLES, behind their type -/
theorem J.vars (hT : TOKS kd wr nm vv m z gA gM) {s p sg q ty t0 : Nat} {ow : Bool} {r : PRL} {wA0 wM0 : Wd} {rm : TX12_block} {W : Wd → Wd → PSTT} {KA : Int32 → Wd → Option γ} {KM : Int32 → Wd → Option (Option α × Wd)} (hty : 1 ≤ ty ∧ ty ≤ 2) (hb : 2800 ≤ b) (hst : STJ kd wr nm vv m z gA gM lv 0 (C 1) (s :: stk) ((p, sg, q) :: r) C TK SL t d b fa wA wM)
    (hl : lv = true → d ≤ 40 ∧ (ow = true ∧ kd t0 = 6 ∧ t = t0 + 2 ∨ ow = false ∧ t = t0 + 1) ∧ kd (t - 1) = 6 + ty ∧ STEP C t0 (s :: stk) ((p, sg, q) :: r) obl wA0 wM0 C t wA wM) (hd : lv = false → t = z - 1) (h1z : 1 ≤ t)
    (H : ∀ lv' x t' fa' uA uM C' TK' SL' sg' q' (an : Option Nat), STJ kd wr nm vv m z gA gM lv' 1 (C' 1) (s :: stk) ((p, sg', q') :: r) C' TK' SL' t' d b fa' uA uM → (lv' = true → lv = true ∧ t0 < t' ∧ t' ≤ m ∧ LEC C C' ∧ C' 0 + 2 * t0 ≤ C 0 + 2 * t' ∧ C' 6 + C 4 = C' 4 + C 6 ∧ sg ≤ sg' ∧ STEP C t0 (s :: stk) ((p, sg, q) :: r) obl wA0 wM0 C' t' uA uM ∧ (∀ x, an = some x → gi uM 11 x = -1 ∧ C 0 ≤ x ∧ x < C' 0) ∧ FACT (s :: stk) ((p, sg', q') :: r) obl (C 0) C' t' (an.getD (C' 0)) (fun fA fM => DCLX kd fA fM (W fA fM) d (s :: stk) (hdM stk) p r t0 t' sg sg' q q' an C C') uA uM) → (lv' = false → t' = z - 1) → GLJ kd wr nm z gA gM wd lv' stkF fa' B (KA x uA) (KM (match an with | none => -1 | some x => Int32.ofNat x) uM) S) :
    GLJ kd wr nm z gA gM wd lv stkF fa B (bn (fX4_variables (Int32.ofNat ty) ow wA) fun w => KA 0 w) (be (oX12_declaration_108 rm FU ow (Int32.ofNat ty) wM) KM) S := by
  unfold fX4_variables
  obtain ⟨n9, hn9⟩ : ∃ n, n = 9000 := ⟨_, rfl⟩
  obtain ⟨fo, hfo⟩ := FU_ge (k := 9002) (by omega)
  obtain ⟨N, hN⟩ : ∃ N, N = FU := ⟨_, rfl⟩
  rw [← hN] at hfo ⊢
  rw [show N = (fo + n9 + 1) + 1 by omega, v_20]
  have e1 : ∀ w, oX12_declaration_108 rm ((fo + n9 + 1) + 1) ow (Int32.ofNat ty) w = fX12_declaration_108 rm (oX12_declaration_108 rm ((fo + 1) + n9)) ow (Int32.ofNat ty) w := fun w => by
    rw [show (fo + n9 + 1) + 1 = ((fo + 1) + n9) + 1 by omega]
    rfl
  rw [e1]
  refine vars_loop (C0 := C) (t0 := t0) (sg0 := sg) (q0 := q) (s1 := t) (wA0 := wA0) (wM0 := wM0) (obl := obl) (Q := lv = true) (KM := KM) (KA := fun w => KA 0 w) hT hty hb (fun lv' t' fa' uA uM C' TK' SL' sg' q' j hst1 hl1 hd1 => ?_) (fo := fo) (fm := fo + 1) n9 lv C TK SL t fa wA wM sg q 0 (by have := hst.in1.z9; omega) (by omega) hst (fun h => ⟨⟨h, (hl h).1⟩, rfl, fun _ _ _ => rfl, rfl, fun _ => ⟨rfl, rfl, rfl⟩, fun _ => ⟨rfl, rfl, rfl⟩, (hl h).2.2.2, fun _ _ _ _ _ => fun i hi => absurd hi (by omega)⟩) hd
  refine H lv' 0 t' fa' uA uM C' TK' SL' sg' q' none hst1 (fun h => ?_) hd1
  obtain ⟨y0, y1, y2, y3, y4, y5, y6, y7, y8, y9, y10⟩ := hl1 h
  obtain ⟨u1, u2, u3, u4⟩ := hl y0
  have e0 := y3 0 (by omega) (by omega)
  have e4 := y3 4 (by omega) (by omega)
  have e6 := y3 6 (by omega) (by omega)
  have hsg : sg ≤ sg' := by
    cases ow
    · have := y6 rfl; omega
    · have := y5 rfl; omega
  refine ⟨y0, by omega, y2, y7.1, by omega, by omega, hsg, y7, fun x hx => absurd hx (by simp), ?_⟩
  show FACT (s :: stk) ((p, sg', q') :: r) obl (C 0) C' t' (C' 0) _ uA uM
  refine y10.imp (fun fA fM hh => Or.inl ⟨t, j + 1, ty, o2n ow, ?_, u3, hty.1, hty.2, by omega, ?_, by omega, rfl, ?_, fun i hi => ?_, ?_, ?_⟩)
  · rcases u2 with ⟨h1, h2, h3⟩ | ⟨h1, h2⟩
    · rw [h1]
      exact Or.inl ⟨rfl, h2, h3⟩
    · rw [h1]
      exact Or.inr ⟨rfl, h2⟩
  · intro i hi
    by_cases q9 : i = j
    · rw [q9]
      exact ⟨y9, fun h => absurd h (by omega), hh.2.1⟩
    · have := hh.1 i (by omega)
      exact ⟨this.1, fun _ => this.2.1, this.2.2.1⟩
  · intro i hi
    have hx : gi fM 19 (C 1 + i) = 1 ∧ gi fM 20 (C 1 + i) = Int32.ofNat ty ∧ gi fM 27 (C 1 + i) = Int32.ofNat (o2n ow) ∧ (ow = false → gi fA 18 (C 1 + i + 1) = Int32.ofNat (sg + i) ∧ gi fM 26 (C 1 + i) = Int32.ofNat (q + i)) ∧ (ow = true → gi fM 26 (C 1 + i) = Int32.ofNat (C 5 + i)) ∧ DC1 fA fM (C 1 + i) s p := by
      by_cases q9 : i = j
      · rw [q9]
        obtain ⟨b1, b2, b3, b4, b5, b6⟩ := hh.2
        exact ⟨b2, b3, b4, b5, b6⟩
      · have := hh.1 i (by omega)
        exact this.2.2.2
    refine ⟨hx.1, hx.2.1, hx.2.2.1, fun h => hx.2.2.2.1 ?_, fun h => hx.2.2.2.2.1 ?_⟩
    · cases ow
      · rfl
      · exact absurd h (by decide)
    · cases ow
      · exact absurd h (by decide)
      · rfl
  · by_cases q9 : i = j
    · rw [q9]
      exact hh.2.2.2.2.2.2.2
    · exact (hh.1 i (by omega)).2.2.2.2.2.2.2.2
  · intro h
    have ho : ow = false := by
      cases ow
      · rfl
      · exact absurd h (by decide)
    obtain ⟨z1, z2, z3⟩ := y6 ho
    refine ⟨by omega, by omega, ?_⟩
    funext i
    unfold upD upC
    by_cases i1 : i = 1
    · rw [if_pos i1, i1]; omega
    · rw [if_neg i1]
      by_cases i5 : i = 5
      · rw [i5]; exact z1
      · exact y3 i i1 i5
  · intro h
    have ho : ow = true := by
      cases ow
      · exact absurd h (by decide)
      · rfl
    obtain ⟨z1, z2, z3⟩ := y5 ho
    refine ⟨by omega, by omega, ?_⟩
    funext i
    unfold upD upC
    by_cases i5 : i = 5
    · rw [if_pos i5, i5, if_neg (by omega)]; omega
    · rw [if_neg i5]
      by_cases i1 : i = 1
      · rw [if_pos i1, i1]; omega
      · rw [if_neg i1]
        exact y3 i i1 i5
/-- both look at the TOKEN, which is there -/
theorem skip_need {k : Nat} {x : Int32} {K : Bool → Wd → Option (Option α × Wd)} (h : SM kd wr m wM t d) (hd : d ≤ 40) (hx : x = Int32.ofNat (kM k)) (hk : 2 ≤ k) (hkd : kd t = k) : be (fX12_skip x wM) K = be (fX12_expect x wM) (fun _ w => K true w) := by
  rw [m_skip h hd hx hk hkd, m_expect h hd hx hk hkd]
  rfl
/-- both fail -/
theorem bad_need {k : Nat} {x : Int32} {K K2 : Int32 → Wd → Option (Option α × Wd)} {f : Wd → Option (Option Int32 × Wd)} (h : SM kd wr m wM t d) (hx : x = Int32.ofNat (kM k)) (hk : 2 ≤ k ∧ k ≤ 50) (hkd : kd t ≠ k) : be (bn (fX12_bad wM) fun w => some (none, w)) K = be (fX12_expect x wM) K2 := by
  rw [m_bad h, m_expect_no h hx (by omega) (Or.inr hkd) hk.1]
  rfl
/-- the class's type -/
theorem a_type {base : Nat} {K : Int32 → Wd → Option γ} (h : IN1 kd wr z wA t base fa) : lt2 (fX4_type wA) K = if kd t = 7 then lt (fX9_need (Int32.ofNat 7) wA) (K 1) else if kd t = 8 then lt (fX9_need (Int32.ofNat 8) wA) (K 2) else K 0 wA := by
  have e78 : fX4_type wA = if kd t = 7 then (1, fX9_need (Int32.ofNat 7) wA) else if kd t = 8 then (2, fX9_need (Int32.ofNat 8) wA) else (0, wA) := by
    unfold fX4_type fX9_need
    rw [show (7 : Int32) = Int32.ofNat 7 from rfl, show (8 : Int32) = Int32.ofNat 8 from rfl]
    by_cases q7 : kd t = 7
    · obtain ⟨e1, e2⟩ := a_take (k := Int32.ofNat 7) h.1 (by omega) (by rw [q7])
      rw [if_pos q7, e1]
      rfl
    · rw [if_neg q7, a_take_no h.1 (by omega) q7, lt2q, if_neg (show ¬ (false = true) by decide)]
      by_cases q8 : kd t = 8
      · obtain ⟨e1, e2⟩ := a_take (k := Int32.ofNat 8) h.1 (by omega) (by rw [q8])
        rw [if_pos q8, e1]
        rfl
      · rw [if_neg q8, a_take_no h.1 (by omega) q8]
        rfl
  rw [e78]
  by_cases q7 : kd t = 7
  · rw [if_pos q7, if_pos q7]
    rfl
  · rw [if_neg q7, if_neg q7]
    by_cases q8 : kd t = 8
    · rw [if_pos q8, if_pos q8]
      rfl
    · rw [if_neg q8, if_neg q8]
      rfl
end JT
