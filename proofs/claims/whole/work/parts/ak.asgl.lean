/-! BOTH SIDES: the targets of an assignment -/
section JT
variable {kd wr nm : Nat → Nat} {vv : Nat → Int64} {m z : Nat} {gA gM : Wd} {lv : Bool} {sl us B : Nat} {stk obl stkF : List Nat} {prs : PRL} {C TK : Nat → Nat} {SL : Nat → List Nat} {t d b : Nat} {fa : Int32} {wA wM : Wd} {γ α : Type} {wd : γ → Wd} {S : γ → α → Wd → Prop} {P : (Nat → Nat) → Nat → Wd → Wd → Prop}
/-- when there are too many targets, the 21st is told of -/
def FV5 (fM : Wd) (c0 c : Nat) (mid : List Nat) : Prop := mid.length ≤ 19 ∧ c = c0 ∨ 20 ≤ mid.length ∧ ∃ tk, gi fM 12 (mid.getD 19 0) = Int32.ofNat tk ∧ tk < 8194 ∧ c = if c0 = 0 then tk + 1 else c0
/-- what's known of the targets so far: x0 the first, mid those behind it, xl the last -/
def ASG (kd : Nat → Nat) (sc : Int32) (d lo x0 t0 e1 c0 : Nat) (mid : List Nat) (xl t c : Nat) (fA fM : Wd) : Prop := PLC kd sc lo x0 d t0 e1 fA fM ∧ kd e1 = 50 ∧ (∀ rest y e, TGS kd fA fM sc d (xl :: rest) (xl + 1) y t e → TGS kd fA fM sc d (x0 :: (mid ++ rest)) (x0 + 1) y (e1 + 1) e) ∧ FV5 fM c0 c mid
theorem getD_l {l : List Nat} {x : Nat} (h : 20 ≤ l.length) : (l ++ [x]).getD 19 0 = l.getD 19 0 := by
  rw [List.getD_eq_getElem?_getD, List.getD_eq_getElem?_getD, List.getElem?_append_left (by omega)]
theorem getD_r {l : List Nat} {x : Nat} (h : l.length = 19) : (l ++ [x]).getD 19 0 = x := by
  rw [List.getD_eq_getElem?_getD, List.getElem?_append_right (by omega), h]
  rfl
theorem take_need {c : Nat} {w : Wd} {K : Bool → Wd → Option γ} (h : CT kd wr true z w t fa) (hc : c ≤ 50) (q : kd t = c) (hc2 : c ≠ 0 := by omega) : lt2 (fX9_take (Int32.ofNat c) w) K = lt (fX9_need (Int32.ofNat c) w) (K true) := by
  obtain ⟨e1, e2⟩ := a_take (k := Int32.ofNat c) h (by omega) (by rw [q])
  unfold fX9_need
  rw [e1]
  dsimp only [lt2, lt]
  rw [if_pos rfl]
theorem asg_loop (hT : TOKS kd wr nm vv m z gA gM) {β t0 x0 e1 p sg q : Nat} {r : PRL} {C0 : Nat → Nat} {wA0 wM0 : Wd} {KA : Int32 → Wd → Option γ} {KM : Int32 → Wd → Option (Option α × Wd)} {W : Wd → Wd → PSTT}
    (hk0 : kd t0 = 2 ∧ (kd (t0 + 1) = 50 ∨ kd (t0 + 1) = 45)) (hS : STBJ stk ((p, sg, q) :: r) obl P) (hP0 : P C0 t0 wA0 wM0) (hc0 : C0 0 ≤ 2 * t0 + 98) (hd40 : d ≤ 40) (hb : 2800 ≤ b) (hx0 : C0 0 ≤ x0)
    (H : ∀ lv' x t' fa' uA uM n C' TK' SL' q', STJ kd wr nm vv m z gA gM lv' 0 (C' 1) stk ((p, sg, q') :: r) C' TK' SL' t' d (b + β) fa' uA uM → (lv' = true → true = true ∧ t0 ≤ t' ∧ t' ≤ m ∧ LEC C0 C' ∧ C' 0 + 2 * t0 ≤ C0 0 + 2 * t' + 1 ∧ C' 6 + C0 4 = C' 4 + C0 6 ∧ P C' t' uA uM ∧ gi uM 11 n = -1 ∧ n < C' 0 ∧ C0 0 ≤ n ∧ FACT stk ((p, sg, q') :: r) obl (C0 0) C' t' n (fun fA fM => PW kd d W fA fM t0 t' n stk ((p, sg, q) :: r) q q' C0 C') uA uM) → (lv' = false → t' = z - 1) → GLJ kd wr nm z gA gM wd lv' stkF fa' B (KA x uA) (KM (Int32.ofNat n) uM) S)
    {fo fm : Nat} {x1 : Int32} : ∀ (n : Nat) (lv : Bool) (C : Nat → Nat) (t : Nat) (fa : Int32) (wA wM : Wd) (xl : Nat) (mid : List Nat), z ≤ t + n → mid.length ≤ t → STJ kd wr nm vv m z gA gM lv 0 (C 1) stk ((p, sg, q) :: r) C TK SL t d b fa wA wM →
      (lv = true → t0 < t ∧ C 0 = xl + 1 ∧ C0 0 ≤ xl ∧ C 0 + 2 * t0 ≤ C0 0 + 2 * t ∧ (∀ i, i ≠ 0 → i ≠ 7 → C i = C0 i) ∧ C0 7 ≤ C 7 ∧ STEP C0 t0 stk ((p, sg, q) :: r) obl wA0 wM0 C t wA wM ∧ gi wM 11 xl = -1 ∧ FACT stk ((p, sg, q) :: r) obl (C0 0) C t xl (ASG kd (hdM stk) d (C0 0) x0 t0 e1 (C0 7) mid xl t (C 7)) wA wM) →
      GLJ kd wr nm z gA gM wd lv stkF fa B (bn (oX4_assignment_27 (fo + n + 2) (Int32.ofNat d) x1 1 true (Int32.ofNat mid.length) wA) fun w => KA 0 w) (be (oX12_setOrCall_91 (fm + n + 1) (Int32.ofNat t0) (Int32.ofNat x0) (Int32.ofNat xl) (Int32.ofNat (mid.length + 1)) wM) KM) S := by
  intro n
  induction n with
  | zero =>
    intro lv C t fa wA wM xl mid hz hj hst
    have := hst.in1.tz
    omega
  | succ n ih =>
    intro lv C t fa wA wM xl mid hz hj hst hl
    have hin := hst.in1
    have htz := hin.tz
    have hz9 := hin.z9
    have e2 : oX12_setOrCall_91 (fm + (n + 1) + 1) (Int32.ofNat t0) (Int32.ofNat x0) (Int32.ofNat xl) (Int32.ofNat (mid.length + 1)) wM = fX12_setOrCall_91 (oX12_setOrCall_91 (fm + n + 1)) (Int32.ofNat t0) (Int32.ofNat x0) (Int32.ofNat xl) (Int32.ofNat (mid.length + 1)) wM := rfl
    have e1' : fo + (n + 1) + 2 = (fo + n + 2) + 1 := by omega
    rw [e1', a_asg1 hin (by omega), e2]
    unfold fX12_setOrCall_91
    rw [be_be, show ∀ (a : Option (Int32 × Wd)) (f : Int32 → Wd → Option Wd), bn (bn2 a f) (fun w => KA 0 w) = bn2 a (fun x w => bn (f x w) (fun w => KA 0 w)) from fun a f => by cases a <;> rfl]
    let P1 : (Nat → Nat) → Nat → Wd → Wd → Prop := fun C' t' a c => (lv = true → PF C0 t0 stk ((p, sg, q) :: r) obl wA0 wM0 C' t' a c) ∧ (lv = true → PFA stk ((p, sg, q) :: r) obl (C0 0) C t xl (ASG kd (hdM stk) d (C0 0) x0 t0 e1 (C0 7) mid xl t (C 7)) C' t' a c) ∧ (lv = true → PFA stk ((p, sg, q) :: r) obl (C0 0) C t (C 0) (fun _ fM => gi fM 11 xl = -1) C' t' a c)
    have hS1 : STBJ stk ((p, sg, q) :: r) obl P1 := STBJ.and (STBJ.if fun _ => PF.stb (fun _ h _ => h) (fun y hy _ => ⟨y, hy, rfl⟩) (fun _ h _ => h)) (STBJ.and (STBJ.if fun _ => PFA.stb) (STBJ.if fun _ => PFA.stb))
    refine J.expr (a2 := 0) (P := P1) hT hS1 hst (fun h => ?_) ⟨by omega, fun _ => hd40⟩ hb (by omega) (Or.inr rfl) (fun lv1 x t2 fa2 vA vM n2 cn hst1 hl1 hd1 => ?_)
    · obtain ⟨y1, y2, y3, y4, y5, y6, y7, y8, y9⟩ := hl h
      refine ⟨fun _ => y7, fun _ => ⟨LEC.rf, Nat.le_refl _, y9⟩, fun _ => ⟨LEC.rf, Nat.le_refl _, fun fA fM hA hM hE => ?_⟩⟩
      exact (hM 11 xl (Or.inr (Or.inl ⟨rfl, y3, by omega, by omega⟩))).1.trans y8
    · have hin2 := hst1.in1
      rw [a_asg2 hin2.2.1 (by omega)]
      have hKe : ∀ (a5 : Int32) (w : Wd), bn (oX4_assignment_27 (fo + n + 2) (Int32.ofNat d) x1 1 false a5 w) (fun w => KA 0 w) = KA 0 (fX0_put_ 26 1 w).2 := fun a5 w => rfl
      -- where the last EXPR stands
      have hend : (lv1 = true → ¬ ((gi vM 7 n2 = 3 ∨ gi vM 7 n2 = 4) ∧ kd t2 = 50)) → GLJ kd wr nm z gA gM wd lv1 stkF fa2 B (KA 0 (fX0_put_ 26 1 vA).2) (bn2 (fX12_node 21 (Int32.ofNat x0) (Int32.ofNat n2) 0 (Int32.ofNat t0) vM) KM) S := by
        intro _
        have hst3 : STJ kd wr nm vv m z gA gM lv1 0 ((upC C 0 (n2 + 1)) 1) stk ((p, sg, q) :: r) (upC C 0 (n2 + 1)) TK SL t2 d (b + β) fa2 (fX0_put_ 26 1 vA).2 vM := by
          rw [upC_n (by omega)]
          exact (hst1.pre hT e_put_).bw (Or.inl (by omega))
        have hC0 : (upC C 0 (n2 + 1)) 0 = n2 + 1 := upC_s
        refine spl_end (C0 := C0) (t0 := t0) (q := q) (W := fun fA fM => PLNX kd fA fM (W fA fM) d) (Ψ := fun fA fM => ASG kd (hdM stk) d (C0 0) x0 t0 e1 (C0 7) mid xl t (C 7) fA fM ∧ gi fM 11 xl = -1 ∧ XPR kd (hdM stk) (C 0) n2 d t t2 cn fA fM) hT hS hst3 (fun h => ?_) hd1 (fun h fA fM v hy g7 g8 g9 g10 g12 g13 => ?_) H
        · obtain ⟨w1, w2, w3, w4, w5, w6, w7, w8, w9⟩ := hl1 h
          obtain ⟨y1, y2, y3, y4, y5, y6, y7, y8, y9⟩ := hl w1
          obtain ⟨u1, u2, u3⟩ := w6
          have hpre : ∀ {C' : Nat → Nat}, STEP C' t2 stk ((p, sg, q) :: r) obl vA vM C' t2 (fX0_put_ 26 1 vA).2 vM := STEP.pre e_put_
          have hle : LEC C (upC C 0 (n2 + 1)) := upC_le (by omega)
          have f1 := ((u2 w1).2.2.step hle (by omega) hpre).wk (lo' := C0 0) (Cf' := upC C 0 (n2 + 1)) (tf' := t2) (pd' := (upC C 0 (n2 + 1)) 0) (stk' := stk) (prs' := (p, sg, q) :: r) (obl' := obl) (Nat.le_refl _) hle (by omega) (Or.inr (Or.inl (by rw [hC0]; omega))) (fun _ h _ => h) (fun y hy _ => ⟨y, hy, rfl⟩) (fun _ h _ => h)
          have f2 := ((u3 w1).2.2.step hle (by omega) hpre).wk (lo' := C0 0) (Cf' := upC C 0 (n2 + 1)) (tf' := t2) (pd' := (upC C 0 (n2 + 1)) 0) (stk' := stk) (prs' := (p, sg, q) :: r) (obl' := obl) (Nat.le_refl _) hle (by omega) (Or.inr (Or.inl (by rw [hC0]; omega))) (fun _ h _ => h) (fun y hy _ => ⟨y, hy, rfl⟩) (fun _ h _ => h)
          have f3 := (w9.step LEC.rf (Nat.le_refl _) hpre).wk (lo' := C0 0) (Cf' := upC C 0 (n2 + 1)) (tf' := t2) (pd' := (upC C 0 (n2 + 1)) 0) (stk' := stk) (prs' := (p, sg, q) :: r) (obl' := obl) (by omega) LEC.rf (Nat.le_refl _) (Or.inr (Or.inl (Nat.le_refl _))) (fun _ h _ => h) (fun y hy _ => ⟨y, hy, rfl⟩) (fun _ h _ => h)
          have hLC : LEC C0 (upC C 0 (n2 + 1)) := fun i => by
            by_cases i0 : i = 0
            · rw [i0, upC_s]; omega
            · rw [upC_n i0]
              by_cases i7 : i = 7
              · rw [i7]; exact y6
              · rw [y5 i i0 i7]; exact Nat.le_refl _
          refine ⟨by omega, w3, hLC, by rw [hC0]; omega, hc0, by rw [upC_n (by omega), upC_n (by omega), y5 6 (by omega) (by omega), y5 4 (by omega) (by omega)]; omega, hS _ _ _ _ _ _ _ _ hP0 (STEP.tr (u1 w1) hpre), f1.and (f2.and f3)⟩
        · obtain ⟨w1, w2, w3, w4, w5, w6, w7, w8, w9⟩ := hl1 h
          obtain ⟨y1, y2, y3, y4, y5, y6, y7, y8, y9⟩ := hl w1
          obtain ⟨⟨a1, a2, a3, a4⟩, b1, b2⟩ := hy
          have h1 := a3 [] n2 t2 ⟨cn, by rw [← y2]; exact b2, b1⟩
          rw [List.append_nil] at h1
          refine ⟨p, sg, q, r, rfl, Or.inr (Or.inl ⟨hk0.1, hk0.2, (gi_si1 (by omega)).trans g7, x0, mid, n2, e1, (gi_si1 (by omega)).trans g8, (gi_si1 (by omega)).trans g9, hC0, a1, a2, h1, rfl, C 7, ?_, a4⟩)⟩
          rw [hC0, upC_u]
          funext i
          unfold upC
          by_cases i7 : i = 7
          · rw [if_pos i7, if_neg (by omega), i7]
          · rw [if_neg i7]
            by_cases i0 : i = 0
            · rw [if_pos i0, if_pos i0]
            · rw [if_neg i0, if_neg i0, y5 i i0 i7]
      have hcl : kd t2 ≠ 50 ∨ ¬ (gi vA 8 t = 1 ∨ gi vA 8 t = 2 ∨ gi vA 8 t = 3) → bn (if gi vA 8 t = 1 ∨ gi vA 8 t = 2 ∨ gi vA 8 t = 3 then lt2 (fX9_take (Int32.ofNat 50) vA) fun c w2 => oX4_assignment_27 (fo + n + 2) (Int32.ofNat d) x1 1 c (Int32.ofNat (mid.length + 1)) w2 else oX4_assignment_27 (fo + n + 2) (Int32.ofNat d) x1 1 false (Int32.ofNat (mid.length + 1)) vA) (fun w => KA 0 w) = KA 0 (fX0_put_ 26 1 vA).2 := by
        intro hno
        by_cases qf : gi vA 8 t = 1 ∨ gi vA 8 t = 2 ∨ gi vA 8 t = 3
        · have hk2 : kd t2 ≠ 50 := hno.elim id (fun h => absurd qf h)
          rw [if_pos qf, a_take_no hin2.1 (by omega) hk2, lt2q, hKe]
        · rw [if_neg qf, hKe]
      cases lv1
      · have ht2 := hd1 rfl
        rw [hcl (Or.inl (by rw [ht2]; have := hin2.1.2.2.2.1 (z - 1) (by omega); omega))]
        exact ⟨fun _ => (hend (fun h => absurd h (by decide))).1 rfl, fun h => absurd h (by decide)⟩
      · obtain ⟨w1, w2, w3, w4, w5, w6, w7, w8, w9⟩ := hl1 rfl
        subst w1
        obtain ⟨y1, y2, y3, y4, y5, y6, y7, y8, y9⟩ := hl rfl
        obtain ⟨u1, u2, u3⟩ := w6
        have hJ := (hst.jl rfl).2
        have hJ2 := (hst1.jl rfl).2
        have hn24 : n2 < 24000 := by have := hJ2.2.2.2.2.2.1.1; have := hJ2.2.1.1.1; rw [upC_s] at *; omega
        rw [m_asg2 hJ2.2.1 hn24]
        obtain ⟨vf1, vf2⟩ := var_form w8
        by_cases qv : (gi vM 7 n2 = 3 ∨ gi vM 7 n2 = 4) ∧ kd t2 = 50
        · rw [if_pos (vf1.mpr qv.1), if_pos qv]
          obtain ⟨qv1, qk⟩ := qv
          have hlen : (mid ++ [n2]).length = mid.length + 1 := by simp
          have hC1 : LEC C (upC C 0 (n2 + 1)) := upC_le (by omega)
          rw [take_need hin2.1 (by omega) qk]
          unfold fX12_setOrCall_134
          rw [if_pos rfl, be_be, show ∀ (w : Wd) (f : Wd → Option Wd) (g : Wd → Option γ), bn (lt (fX9_need (Int32.ofNat 50) w) f) g = lt (fX9_need (Int32.ofNat 50) w) fun u => bn (f u) g from fun _ _ _ => rfl]
          let P2 : (Nat → Nat) → Nat → Wd → Wd → Prop := fun C' t' a c => PF C0 t0 stk ((p, sg, q) :: r) obl wA0 wM0 C' t' a c ∧ PFA stk ((p, sg, q) :: r) obl (C0 0) C t xl (ASG kd (hdM stk) d (C0 0) x0 t0 e1 (C0 7) mid xl t (C 7)) C' t' a c ∧ PFA stk ((p, sg, q) :: r) obl (C 0) (upC C 0 (n2 + 1)) t2 n2 (fun fA fM => XPR kd (hdM stk) (C 0) n2 d t t2 cn fA fM ∧ (gi fM 7 n2 = 3 ∨ gi fM 7 n2 = 4) ∧ gi fM 12 n2 = Int32.ofNat t) C' t' a c ∧ PFA stk ((p, sg, q) :: r) obl (C 0) (upC C 0 (n2 + 1)) t2 (n2 + 1) (fun _ fM => gi fM 11 n2 = -1) C' t' a c
          have hS2 : STBJ stk ((p, sg, q) :: r) obl P2 := STBJ.and (PF.stb (fun _ h _ => h) (fun y hy _ => ⟨y, hy, rfl⟩) (fun _ h _ => h)) (STBJ.and PFA.stb (STBJ.and PFA.stb PFA.stb))
          refine GLJ.tk (x := 290) (fun _ => by rw [m_taken hJ2.2.1 hd40 (by omega), m_expect (x := 290) hJ2.2.1 hd40 (k := 50) rfl (by omega) qk]) (J.need (P := P2) hT hS2 hst1 (fun _ => ?_) (c := 50) (by omega) (fun _ => hd40) hb (by omega) rfl (fun lv2 t3 fa3 oA oM hst3 hl3 hd3 => ?_))
          · refine ⟨u1 rfl, u2 rfl, ⟨LEC.rf, Nat.le_refl _, w9.and (fun fA fM hA hM hE => ?_)⟩, ⟨LEC.rf, Nat.le_refl _, fun fA fM hA hM hE => ?_⟩⟩
            · have g : ∀ k, 7 ≤ k ∧ k ≤ 10 ∨ k = 12 ∨ k = 13 ∨ k = 44 ∨ k = 45 → gi fM k n2 = gi vM k n2 := fun k hk => (hM k n2 (Or.inl ⟨hk, w4, by rw [upC_s]; omega⟩)).1
              show (gi fM 7 n2 = 3 ∨ gi fM 7 n2 = 4) ∧ gi fM 12 n2 = Int32.ofNat t
              rw [g 7 (by omega), g 12 (by omega)]
              exact ⟨qv1, vf2 qv1⟩
            · exact (hM 11 n2 (Or.inr (Or.inl ⟨rfl, w4, by rw [upC_s]; omega, by omega⟩))).1.trans w7
          · cases lv2
            · refine GLJ.ref (rM' := be (oX12_setOrCall_91 (fm + n + 1) (Int32.ofNat t0) (Int32.ofNat x0) (Int32.ofNat n2) (Int32.ofNat (mid.length + 1 + 1)) oM) KM) (fun h => absurd h (by decide)) ?_
              have := ih false C t3 fa3 oA oM n2 (mid ++ [n2]) (by have := hd3 rfl; have := hT.2.2.1; omega) (by rw [hlen]; have := hd3 rfl; have := hJ2.2.1.2.1; have := hT.2.2.1; omega) (hst3.dd rfl) (fun h => absurd h (by decide))
              rw [hlen] at this
              exact this
            · obtain ⟨o1, o2, o3, o4, ⟨p1, p2, p3, p4⟩⟩ := hl3 rfl
              have hgo : ∀ (C2 : Nat → Nat) (yM : Wd), STJ kd wr nm vv m z gA gM true 0 (C2 1) stk ((p, sg, q) :: r) C2 TK SL t3 d b fa3 oA yM → OFF (fun k j => (k = 0 ∧ (j = 10 ∨ j = 11)) ∨ (k = 11 ∧ j = xl)) yM oM → EXF oM yM → gi yM 11 xl = Int32.ofNat n2 → C2 0 = n2 + 1 → (∀ i, i ≠ 0 → i ≠ 7 → C2 i = C i) → C 7 ≤ C2 7 → (∀ fM, gi fM 12 n2 = Int32.ofNat t → FV5 fM (C0 7) (C 7) mid → FV5 fM (C0 7) (C2 7) (mid ++ [n2])) → GLJ kd wr nm z gA gM wd true stkF fa3 B (bn (oX4_assignment_27 (fo + n + 2) (Int32.ofNat d) x1 1 true (Int32.ofNat (mid.length + 1)) oA) fun w => KA 0 w) (be (oX12_setOrCall_91 (fm + n + 1) (Int32.ofNat t0) (Int32.ofNat x0) (Int32.ofNat n2) (Int32.ofNat (mid.length + 1 + 1)) yM) KM) S := by
                intro C2 yM hsy ho hxf hset hc20 hc2 hc27 hfv
                have hLC2 : LEC C C2 := fun i => by
                  by_cases i0 : i = 0
                  · rw [i0, hc20]; omega
                  · by_cases i7 : i = 7
                    · rw [i7]; exact hc27
                    · rw [hc2 i i0 i7]; exact Nat.le_refl _
                have hLC12 : LEC (upC C 0 (n2 + 1)) C2 := fun i => by
                  by_cases i0 : i = 0
                  · rw [i0, hc20, upC_s]; exact Nat.le_refl _
                  · rw [upC_n i0]; exact hLC2 i
                have hLC0 : LEC C0 C2 := fun i => by
                  by_cases i0 : i = 0
                  · rw [i0, hc20]; omega
                  · by_cases i7 : i = 7
                    · rw [i7]; omega
                    · rw [hc2 i i0 i7, y5 i i0 i7]; exact Nat.le_refl _
                have := ih true C2 t3 fa3 oA yM n2 (mid ++ [n2]) (by omega) (by rw [hlen]; omega) hsy (fun _ => ⟨by omega, hc20, by omega, by omega, fun i i0 i7 => by rw [hc2 i i0 i7, y5 i i0 i7], by omega, STEP.qx p1 ho (fun k j hk => by omega) hLC0 hxf, ?_, fun fA fM hA hM hE => ?_⟩)
                · rw [hlen] at this
                  exact this
                · rw [(ho 11 n2 (by omega)).1]
                  exact p4.2.2.now
                · have hM1 : EXTL (C0 0) C stk ((p, sg, q) :: r) obl xl oM fM := (hM.wk (Nat.le_refl _) hLC2 (Or.inr (Or.inl (by omega)))).src ho (fun k j hk => by omega)
                  have hM2 : EXTL (C 0) (upC C 0 (n2 + 1)) stk ((p, sg, q) :: r) obl n2 oM fM := (hM.wk (by omega) hLC12 (Or.inl rfl)).src ho (fun k j hk => by omega)
                  obtain ⟨a1, a2, a3, a4⟩ := p2.2.2 fA fM (hA.wk hLC2 (by omega) (fun _ h _ => h)) hM1 (hxf.tr hE)
                  obtain ⟨b1, b2, b3⟩ := p3.2.2 fA fM (hA.wk hLC12 (by omega) (fun _ h _ => h)) hM2 (hxf.tr hE)
                  have b4 : gi fM 11 xl = Int32.ofNat n2 := (hM 11 xl (Or.inr (Or.inl ⟨rfl, y3, by omega, by omega⟩))).1.trans hset
                  refine ⟨a1, a2, fun rest y e h => ?_, hfv fM b3 a4⟩
                  have h9 := a3 (n2 :: rest) y e ⟨t2, cn, by rw [← y2]; exact b1, b2, qk, b4, by rw [← o3]; exact h⟩
                  rw [List.append_assoc]
                  exact h9
              have hxl24 : xl < 24000 := by omega
              show GLJ kd wr nm z gA gM wd true stkF fa3 B _ (be (if inb (Int32.ofNat xl) 24000 = true then lt (si oM 11 (Int32.toNatClampNeg (Int32.ofNat xl)) (Int32.ofNat n2)) fun w6 => lt (Int32.ofNat (mid.length + 1) + 1) fun x7 => if x7 = 21 then (if inb (Int32.ofNat n2) 24000 = true then bn (fX12_found 5 (gi w6 12 (Int32.toNatClampNeg (Int32.ofNat n2))) w6) fun w10 => oX12_setOrCall_91 (fm + n + 1) (Int32.ofNat t0) (Int32.ofNat x0) (Int32.ofNat n2) x7 w10 else none) else (oX12_setOrCall_91 (fm + n + 1) (Int32.ofNat t0) (Int32.ofNat x0) (Int32.ofNat n2) x7 w6) else none) KM) S
              rw [if_pos (inb_iN hxl24 (by omega)), tc_iN (show xl < 2147483648 by omega), tc_iN (show n2 < 2147483648 by omega), ad1_iN]
              refine J.setM (P := fun _ _ _ _ => True) (obl := obl) hT (fun _ _ _ _ _ _ _ _ _ _ => trivial) hst3 (fun _ => trivial) (k := 11) (j := xl) (v := Int32.ofNat n2) (KM := fun w6 => be (lt (Int32.ofNat (mid.length + 1 + 1)) fun x7 => if x7 = 21 then (if inb (Int32.ofNat n2) 24000 = true then bn (fX12_found 5 (gi w6 12 n2) w6) fun w10 => oX12_setOrCall_91 (fm + n + 1) (Int32.ofNat t0) (Int32.ofNat x0) (Int32.ofNat n2) x7 w10 else none) else (oX12_setOrCall_91 (fm + n + 1) (Int32.ofNat t0) (Int32.ofNat x0) (Int32.ofNat n2) x7 w6)) KM) (fun _ => Or.inr (Or.inr (Or.inr rfl))) (fun _ => trivial) (fun hst4 => ?_)
              have ho4 : OFF (fun k j => (k = 0 ∧ (j = 10 ∨ j = 11)) ∨ (k = 11 ∧ j = xl)) (si oM 11 xl (Int32.ofNat n2)) oM := OFF.si (Or.inr ⟨rfl, rfl⟩)
              rw [ltq]
              by_cases q21 : mid.length = 19
              · rw [if_pos (show Int32.ofNat (mid.length + 1 + 1) = 21 by rw [q21]; rfl), if_pos (inb_iN hn24 (by omega)), show ∀ (a : Option Wd) (f : Wd → Option (Option Int32 × Wd)), be (bn a f) KM = bn a (fun w => be (f w) KM) from fun a f => by cases a <;> rfl]
                have h12 : gi (si oM 11 xl (Int32.ofNat n2)) 12 n2 = Int32.ofNat t := by
                  rw [gi_si1 (by omega)]
                  exact p3.2.2.now.2.2
                have h7 : C 7 ≤ t := hJ.2.2.2.2.1.1
                refine J.found5 hT hst4 (tk := t) (by omega) (fun _ => by rw [upC_n (by omega)]; exact h7) (fun _ => h12) (fun yM hst5 ho5' => ?_)
                have ho5 := fun h => (ho5' h).1
                refine hgo (upC (upC C 0 (n2 + 1)) 7 (if upC C 0 (n2 + 1) 7 = 0 then t + 1 else upC C 0 (n2 + 1) 7)) yM hst5 (OFF.tr ((ho5 rfl).mono (fun k j hk => Or.inl hk)) ho4) ((EXF.off (OFF.si (P := fun k j => k = 11 ∧ j = xl) ⟨rfl, rfl⟩) (fun k j hk => by omega)).tr (ho5' rfl).2) ?_ (by rw [upC_n (by omega), upC_s]) (fun i i0 i7 => by rw [upC_n i7, upC_n i0]) (by rw [upC_s, upC_n (by omega)]; split <;> omega) (fun fM g12 hfv => ?_)
                · rw [(ho5 rfl 11 xl (by omega)).1]
                  exact gi_si0 _ _ _ _
                · rcases hfv with ⟨f1, f2⟩ | ⟨f1, _⟩
                  · refine Or.inr ⟨by rw [hlen]; omega, t, by rw [getD_r q21]; exact g12, by omega, ?_⟩
                    rw [upC_s, upC_n (by omega), f2]
                  · omega
              · rw [if_neg (show ¬ (Int32.ofNat (mid.length + 1 + 1) = 21) from of_ne (k := 21) (by omega) (by omega) (by omega))]
                refine hgo (upC C 0 (n2 + 1)) _ hst4 ho4 (EXF.off (OFF.si (P := fun k j => k = 11 ∧ j = xl) ⟨rfl, rfl⟩) (fun k j hk => by omega)) (gi_si0 _ _ _ _) upC_s (fun i i0 i7 => upC_n i0) (by rw [upC_n (by omega)]; exact Nat.le_refl _) (fun fM g12 hfv => ?_)
                rw [upC_n (by omega)]
                rcases hfv with ⟨f1, f2⟩ | ⟨f1, f2⟩
                · exact Or.inl ⟨by rw [hlen]; omega, f2⟩
                · refine Or.inr ⟨by rw [hlen]; omega, ?_⟩
                  rw [getD_l f1]
                  exact f2
        · rw [hcl (by
            by_cases qk : kd t2 = 50
            · exact Or.inr (fun h => qv ⟨vf1.mp h, qk⟩)
            · exact Or.inl qk), if_neg qv]
          unfold fX12_setOrCall_134
          rw [if_neg (by decide), m_some (x := 0) (w := vM) (f := fun w => fX12_node 21 (Int32.ofNat x0) (Int32.ofNat n2) 0 (Int32.ofNat t0) w)]
          exact hend (fun _ => qv)
end JT
