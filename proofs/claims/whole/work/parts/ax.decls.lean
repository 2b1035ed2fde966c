/-! BOTH SIDES: DECLS, one after the other -/
section JT
variable {kd wr nm : Nat → Nat} {vv : Nat → Int64} {m z : Nat} {gA gM : Wd} {lv : Bool} {sl us B : Nat} {stk obl stkF : List Nat} {prs : PRL} {C TK : Nat → Nat} {SL : Nat → List Nat} {t d b : Nat} {fa : Int32} {wA wM : Wd} {γ α : Type} {wd : γ → Wd} {S : γ → α → Wd → Prop} {P : (Nat → Nat) → Nat → Wd → Wd → Prop}
theorem STEP.ob {C' : Nat → Nat} {t' : Nat} {uA uM : Wd} (h : STEP C t stk prs [] wA wM C' t' uA uM) : STEP C t stk prs obl wA wM C' t' uA uM := ⟨h.1, h.2.1, EXTA.wk h.2.2.1 LEC.rf (Nat.le_refl _) (fun _ h _ => h) (fun s hs _ => absurd hs (by simp)), h.2.2.2.1.ctx (fun _ h _ => h) (fun y hy _ => ⟨y, hy, rfl⟩) (fun s hs _ => absurd hs (by simp)), h.2.2.2.2⟩
theorem STBJ.ob (h : STBJ stk prs obl P) : STBJ stk prs [] P := fun _ _ _ _ _ _ _ _ hp hs => h _ _ _ _ _ _ _ _ hp hs.ob
theorem PFA.ob {lo pd tf : Nat} {Cf : Nat → Nat} {Φ : Wd → Wd → Prop} : STBJ stk prs [] (PFA stk prs obl lo Cf tf pd Φ) := PFA.stb' (fun _ h _ => h) (fun y hy _ => ⟨y, hy, rfl⟩) (fun s hs _ => absurd hs (by simp))
theorem PF.st0 {bA bM : Wd} {C0 : Nat → Nat} {t0 : Nat} : STBJ stk prs obl (PF C0 t0 stk prs obl bA bM) := PF.stb (fun _ h _ => h) (fun y hy _ => ⟨y, hy, rfl⟩) (fun _ h _ => h)
/-- a TOKEN with which a DECL begins -/
abbrev isD (k : Nat) : Prop := k = 6 ∨ k = 7 ∨ k = 8 ∨ k = 9 ∨ k = 10 ∨ k = 13
theorem a_isD {base : Nat} {w : Wd} (h : IN1 kd wr z w t base fa) : fX4_isDeclaration w = decide (isD (kd t)) := by
  have h50 := h.1.2.2.1 t
  unfold fX4_isDeclaration
  rw [ltq, a_kind h.1]
  have e : ∀ k : Nat, k ≤ 50 → (Int32.ofNat (kd t) = Int32.ofNat k ↔ kd t = k) := fun k hk => eq_iN (by omega) (by omega)
  have q : (Int32.ofNat (kd t) = 6 ∨ Int32.ofNat (kd t) = 7 ∨ Int32.ofNat (kd t) = 8 ∨ Int32.ofNat (kd t) = 9 ∨ Int32.ofNat (kd t) = 10 ∨ Int32.ofNat (kd t) = 13) ↔ isD (kd t) := by
    unfold isD
    rw [← e 6 (by omega), ← e 7 (by omega), ← e 8 (by omega), ← e 9 (by omega), ← e 10 (by omega), ← e 13 (by omega)]
    exact Iff.rfl
  by_cases hD : isD (kd t)
  · rw [if_pos (q.mpr hD), decide_eq_true hD]
  · rw [if_neg (fun h => hD (q.mp h)), decide_eq_false hD]
theorem a_dcls {rc : TX4_block} {n j base : Nat} {a1 : Int32} {w : Wd} {K : Int32 → Wd → Option γ} (h : IN1 kd wr z w t base fa) (hj : j ≤ 8192) : bn2 (oX4_declarations_2 rc (n + 1) a1 (Int32.ofNat j) w) K = if isD (kd t) then (bn2 (rc 2 a1 0 0 w) fun _ w5 => lt (fX9_need (Int32.ofNat 41) w5) fun w6 => bn2 (oX4_declarations_2 rc n a1 (Int32.ofNat (j + 1)) w6) K) else K 0 w := by
  show bn2 (fX4_declarations_2 rc (oX4_declarations_2 rc n) a1 (Int32.ofNat j) w) K = _
  unfold fX4_declarations_2
  rw [if_neg (show ¬ ((8193 : Int32) ≤ Int32.ofNat j) from nle_iN (a := 8193) (by omega) (by omega)), ltq, a_isD h]
  by_cases hD : isD (kd t)
  · rw [decide_eq_true hD, if_pos rfl, if_pos hD, bn2_bn2, ← ad1_iN j]
    rfl
  · rw [decide_eq_false hD, if_neg (by decide), if_neg hD]
    rfl
theorem m_107 {rm : TX12_block} {F : Nat} {k : Int32 → Int32 → Int32 → Int32 → Wd → Option (Option Int32 × Wd)} {a2 a3 a5 a6 : Int32} {w : Wd} (hF : F = FU) (h : SM kd wr m w t d) : fX12_block_107 rm k a2 a3 a5 a6 w = if isD (kd t) then fX12_block_154 rm k a2 a3 a5 a6 w else oX12_block_212 rm F a2 a3 a5 (-1) w := by
  unfold fX12_block_107
  rw [← hF, m_isType h]
  show (if decide (kd t = 7 ∨ kd t = 8) = true then _ else _) = _
  by_cases q7 : kd t = 7 ∨ kd t = 8
  · rw [decide_eq_true q7, if_pos rfl, if_pos (show isD (kd t) by unfold isD; omega)]
  rw [decide_eq_false q7, if_neg (by decide), m_kif h (k := 6) (x := 258) rfl (by omega)]
  by_cases q6 : kd t = 6
  · rw [if_pos q6, if_pos (show isD (kd t) by unfold isD; omega)]
  rw [if_neg q6, m_kif h (k := 9) (x := 261) rfl (by omega)]
  by_cases q9 : kd t = 9
  · rw [if_pos q9, if_pos (show isD (kd t) by unfold isD; omega)]
  rw [if_neg q9, m_kif h (k := 10) (x := 262) rfl (by omega)]
  by_cases q10 : kd t = 10
  · rw [if_pos q10, if_pos (show isD (kd t) by unfold isD; omega)]
  rw [if_neg q10, m_kif h (k := 13) (x := 265) rfl (by omega)]
  by_cases q13 : kd t = 13
  · rw [if_pos q13, if_pos (show isD (kd t) by unfold isD; omega)]
  rw [if_neg q13, if_neg (show ¬ isD (kd t) by unfold isD; omega)]
/-- DECLS so far -/
def DCK (kd : Nat → Nat) (fA fM : Wd) (W : PSTT) (d : Nat) (stk : List Nat) (out : Int32) (p : Nat) (r : PRL) (j0 s0 sg0 q0 : Nat) (al : List Nat) (xl : Nat) (C0 : Nat → Nat) (t sg q : Nat) (C : Nat → Nat) : Prop := ∀ jd e sg' q' al1 C', DCSX kd fA fM W d stk out p r jd t e sg sg' q q' al1 C C' → (al ≠ [] → gi fM 11 xl = (match al1 with | [] => -1 | y :: _ => Int32.ofNat y)) → DCSX kd fA fM W d stk out p r (j0 + jd) s0 e sg0 sg' q0 q' (al ++ al1) C0 C'
theorem DCK.nil {fA fM : Wd} {W : PSTT} {out : Int32} {p s0 sg0 q0 xl : Nat} {r : PRL} {C0 : Nat → Nat} : DCK kd fA fM W d stk out p r 0 s0 sg0 q0 [] xl C0 s0 sg0 q0 C0 := fun jd e sg' q' al1 C' h _ => by
  rw [Nat.zero_add]
  exact h
/-- one of ARRAYS more -/
def anL (al : List Nat) : Option Nat → List Nat
  | none => al
  | some x => al ++ [x]
theorem DCK.next {fA fM : Wd} {W : PSTT} {out : Int32} {p j0 s0 sg0 q0 xl t sg q e1 sg1 q1 : Nat} {r : PRL} {C0 C C1 : Nat → Nat} {al : List Nat} {an : Option Nat} (h : DCK kd fA fM W d stk out p r j0 s0 sg0 q0 al xl C0 t sg q C) (hd : DCLX kd fA fM W d stk out p r t e1 sg sg1 q q1 an C C1) (hk : kd e1 = 41) (hx : ∀ x, an = some x → al ≠ [] → gi fM 11 xl = Int32.ofNat x) : DCK kd fA fM W d stk out p r (j0 + 1) s0 sg0 q0 (anL al an) (an.getD xl) C0 (e1 + 1) sg1 q1 C1 := by
  intro jd e sg' q' al1 C' hs hc
  cases an with
  | none =>
    have := h (jd + 1) e sg' q' al1 C' ⟨e1, sg1, q1, C1, none, al1, hd, hk, rfl, fun _ _ _ h => absurd h (by simp), fun _ h => absurd h (by simp), hs⟩ hc
    rw [show j0 + (jd + 1) = j0 + 1 + jd by omega] at this
    exact this
  | some x =>
    have hc' := hc (by unfold anL; simp)
    have := h (jd + 1) e sg' q' (x :: al1) C' ⟨e1, sg1, q1, C1, some x, al1, hd, hk, rfl, fun x' y l hx' hy => by cases hx'; rw [hy] at hc'; exact hc', fun x' hx' hy => by cases hx'; rw [hy] at hc'; exact hc', hs⟩ (fun hne => hx x rfl hne)
    rw [show j0 + (jd + 1) = j0 + 1 + jd by omega] at this
    show DCSX kd fA fM W d stk out p r (j0 + 1 + jd) s0 e sg0 sg' q0 q' (al ++ [x] ++ al1) C0 C'
    rw [List.append_assoc]
    exact this
theorem m_154 {rm : TX12_block} {k : Int32 → Int32 → Int32 → Int32 → Wd → Option (Option Int32 × Wd)} {a2 a3 a5 a6 : Int32} {w : Wd} {K : Int32 → Wd → Option (Option α × Wd)} : be (fX12_block_154 rm k a2 a3 a5 a6 w) K = be (rm 1 a3 0 0 w) fun x1 w2 => be (fX12_expect 59 w2) fun _ w5 => be (if 0 ≤ x1 then (if 0 ≤ a6 then (if inb a6 24000 = true then lt (si w5 11 (Int32.toNatClampNeg a6) x1) fun w10 => k a2 a3 a5 x1 w10 else none) else (if inb a2 9000 = true then lt (si w5 40 (Int32.toNatClampNeg a2) x1) fun w12 => k a2 a3 a5 x1 w12 else none)) else (k a2 a3 a5 a6 w5)) K := by
  unfold fX12_block_154
  rw [be_be]
  refine be_cg fun x1 w2 => ?_
  rw [be_be]
theorem dcl_loop (hT : TOKS kd wr nm vv m z gA gM) {β t0 sg0 q0 s p bk : Nat} {r : PRL} {C0 : Nat → Nat} {KA : Wd → Option γ} {KM : Int32 → Wd → Option (Option α × Wd)} {rc : TX4_block} {rm : TX12_block} {W : Wd → Wd → PSTT} {x12 : Int32} {F : Nat} (hF : F = FU)
    (hD : DSPL kd wr nm vv m z gA gM (fun w => rc 2 (Int32.ofNat d) 0 0 w) (fun o w => rm 1 o 0 0 w) (fun t => isD (kd t) ∧ d ≤ 40) d β W) (hd40 : d ≤ 41) (hb : 2800 ≤ b) (hB : b + β ≤ 3900) (hbk : bk < 9000) (hbo : bk ∈ obl) (hS : ∀ sg q, STBJ (s :: stk) ((p, sg, q) :: r) obl P) (hP11 : ∀ C t a c xl x, C0 0 ≤ xl → P C t a c → P C t a (si c 11 xl x))
    (HX : ∀ lv' t' fa' uA uM C' TK' SL' sg' q' al j, STJ kd wr nm vv m z gA gM lv' 0 (C' 1) (s :: stk) ((p, sg', q') :: r) C' TK' SL' t' d (b + β) fa' uA uM → (lv' = true → (d ≤ 40 ∨ kd t' = 5) ∧ t0 ≤ t' ∧ t' ≤ m ∧ LEC C0 C' ∧ C' 0 + 2 * t0 ≤ C0 0 + 2 * t' ∧ C' 6 + C0 4 = C' 4 + C0 6 ∧ sg0 ≤ sg' ∧ P C' t' uA uM ∧ gi uM 40 bk = (match al with | [] => -1 | x :: _ => Int32.ofNat x) ∧ FACT (s :: stk) ((p, sg', q') :: r) obl (C0 0) C' t' (C' 0) (fun fA fM => DCSX kd fA fM (W fA fM) d (s :: stk) (hdM stk) p r j t0 t' sg0 sg' q0 q' al C0 C') uA uM) → (lv' = false → t' = z - 1) → GLJ kd wr nm z gA gM wd lv' stkF fa' B (KA uA) (be (oX12_block_212 rm F (Int32.ofNat bk) (hdM stk) x12 (-1) uM) KM) S)
    {fo fm : Nat} : ∀ (n : Nat) (lv : Bool) (C TK : Nat → Nat) (SL : Nat → List Nat) (t : Nat) (fa : Int32) (wA wM : Wd) (sg q : Nat) (al : List Nat) (xl j : Nat) (a6 : Int32), z ≤ t + n → j ≤ t → STJ kd wr nm vv m z gA gM lv 0 (C 1) (s :: stk) ((p, sg, q) :: r) C TK SL t d (b + β) fa wA wM → (al = [] → a6 = -1) → (al ≠ [] → a6 = Int32.ofNat xl) →
      (lv = true → ((d ≤ 40 ∨ kd t = 5) ∧ OBK d r C obl) ∧ t0 ≤ t ∧ LEC C0 C ∧ C 0 + 2 * t0 ≤ C0 0 + 2 * t ∧ C0 0 ≤ 2 * t0 + 98 ∧ C 6 + C0 4 = C 4 + C0 6 ∧ sg0 ≤ sg ∧ bk < C 3 ∧ (xl < C 0 ∧ (al ≠ [] → C0 0 ≤ xl) ∧ (al = [] → xl < C0 0)) ∧ P C t wA wM ∧ gi wM 40 bk = (match al with | [] => -1 | x :: _ => Int32.ofNat x) ∧ (al ≠ [] → gi wM 11 xl = -1) ∧ FACT (s :: stk) ((p, sg, q) :: r) obl (C0 0) C t xl (fun fA fM => DCK kd fA fM (W fA fM) d (s :: stk) (hdM stk) p r j t0 sg0 q0 al xl C0 t sg q C) wA wM) → (lv = false → t = z - 1) →
      GLJ kd wr nm z gA gM wd lv stkF fa B (bn2 (oX4_declarations_2 rc (fo + n + 1) (Int32.ofNat d) (Int32.ofNat j) wA) fun _ u => KA u) (be (oX12_block_107 rm (fm + n + 1) (Int32.ofNat bk) (hdM stk) x12 a6 wM) KM) S := by
  intro n
  induction n with
  | zero =>
    intro lv C TK SL t fa wA wM sg q al xl j a6 hz hj hst
    have := hst.in1.tz
    omega
  | succ n ih =>
    intro lv C TK SL t fa wA wM sg q al xl j a6 hz hj hst ha0 ha1 hl hdd
    have hin := hst.in1
    have htz := hin.tz
    have hz9 := hin.z9
    rw [show fo + (n + 1) + 1 = (fo + n + 1) + 1 by omega, a_dcls hin (by omega)]
    have e2 : oX12_block_107 rm (fm + (n + 1) + 1) (Int32.ofNat bk) (hdM stk) x12 a6 wM = fX12_block_107 rm (oX12_block_107 rm (fm + n + 1)) (Int32.ofNat bk) (hdM stk) x12 a6 wM := rfl
    rw [e2]
    cases lv
    · have ht := hdd rfl
      have hk0 : ¬ isD (kd t) := by
        rw [ht]
        have := hin.1.2.2.2.1 (z - 1) (by omega)
        unfold isD
        omega
      rw [if_neg hk0]
      refine GLJ.ref (rM' := be (oX12_block_212 rm F (Int32.ofNat bk) (hdM stk) x12 (-1) wM) KM) (fun h => absurd h (by decide)) ?_
      exact HX false t fa wA wM C TK SL sg q [] 0 hst (fun h => absurd h (by decide)) hdd
    · obtain ⟨⟨y00, yob⟩, y1, y2, y3, y3', y4, y5, y6, ⟨y7, y7a, y7b⟩, y8, y9, y10, y11⟩ := hl rfl
      have hJ := (hst.jl rfl).2
      rw [m_107 hF hJ.2.1]
      by_cases hk : isD (kd t)
      · rw [if_pos hk, if_pos hk, m_154]
        have y0 : d ≤ 40 := by
          rcases y00 with h | h
          · exact h
          · rw [h] at hk
            exact absurd hk (by decide)
        refine DSPL.go (P := fun C' t' a c => P C' t' a c ∧ PFA (s :: stk) ((p, sg, q) :: r) obl (C0 0) C t xl (fun fA fM => DCK kd fA fM (W fA fM) d (s :: stk) (hdM stk) p r j t0 sg0 q0 al xl C0 t sg q C) C' t' a c) (rA := fun w => rc 2 (Int32.ofNat d) 0 0 w) (rM := fun o w => rm 1 o 0 0 w) hD (STBJ.and (hS sg q) PFA.stb) (hst.bw (b' := b) (Or.inr rfl)) ⟨y8, LEC.rf, Nat.le_refl _, y11⟩ ⟨hk, y0⟩ (by omega) yob hb hB (fun lv1 x t1 fa1 uA uM C1 TK1 SL1 sg1 q1 an hst1 hl1 hd1 => ?_)
        -- ;
        have hSn : STBJ (s :: stk) ((p, sg1, q1) :: r) [] (fun C' t' a c => lv1 = true → P C' t' a c ∧ PFA (s :: stk) ((p, sg1, q1) :: r) obl (C0 0) C t xl (fun fA fM => DCK kd fA fM (W fA fM) d (s :: stk) (hdM stk) p r j t0 sg0 q0 al xl C0 t sg q C) C' t' a c ∧ PFA (s :: stk) ((p, sg1, q1) :: r) obl (C 0) C1 t1 (an.getD (C1 0)) (fun fA fM => DCLX kd fA fM (W fA fM) d (s :: stk) (hdM stk) p r t t1 sg sg1 q q1 an C C1) C' t' a c ∧ PF C1 t1 (s :: stk) ((p, sg1, q1) :: r) [] uA uM C' t' a c) := STBJ.if fun _ => STBJ.and (hS sg1 q1).ob (STBJ.and PFA.ob (STBJ.and PFA.ob PF.st0))
        refine J.need (c := 41) (x := 59) hT hSn hst1 (fun h _ => ?_) (by omega) (fun _ => y0) (by omega) (by omega) rfl (fun lv2 t2 fa2 vA vM hst2 hl2 hd2 => ?_)
        · obtain ⟨w0, w1, w2, w3, w4, w5, w6, w7, w8, w9⟩ := hl1 h
          exact ⟨w7.1, ⟨w7.2.1, w7.2.2.1, w7.2.2.2.wk (Nat.le_refl _) LEC.rf (Nat.le_refl _) (Or.inl rfl) (fun _ h _ => h) (fun y hy _ => pr_same y hy) (fun _ h _ => h)⟩, ⟨LEC.rf, Nat.le_refl _, w9⟩, STEP.rf⟩
        · cases lv2
          · refine GLJ.ref (rM' := be (oX12_block_107 rm (fm + n + 1) (Int32.ofNat bk) (hdM stk) x12 (-1) vM) KM) (fun h => absurd h (by decide)) ?_
            exact ih false C1 TK1 SL1 t2 fa2 vA vM sg1 q1 [] 0 (j + 1) (-1) (by have := hd2 rfl; have := hJ.2.1.2.1; have := hT.2.2.1; have := hJ.2.1.lt (by unfold isD at hk; omega); omega) (by have := hd2 rfl; have := hJ.2.1.lt (by unfold isD at hk; omega); have := hT.2.2.1; omega) hst2 (fun _ => rfl) (fun h => absurd rfl h) (fun h => absurd h (by decide)) hd2
          · obtain ⟨z1, z2, z3, z4, z5⟩ := hl2 rfl
            obtain ⟨v1, v2, v3, v4⟩ := z5 z1
            obtain ⟨w0, w1, w2, w3, w4, w5, w6, w7, w8, w9⟩ := hl1 z1
            -- places of old
            have o40 : gi vM 40 bk = gi wM 40 bk := (v4.2.2.2.1 40 bk (Or.inr (Or.inr (Or.inr (Or.inr (Or.inr (Or.inr (Or.inl ⟨Or.inr rfl, by have := w3 3; omega, by simp⟩)))))))).1.trans (w0.2 40 bk (Or.inr (Or.inr (Or.inr (Or.inr (Or.inr (Or.inr (Or.inl ⟨Or.inr rfl, y6, by simp⟩)))))))).1
            have o11 : gi vM 11 xl = gi wM 11 xl := (v4.2.2.2.1 11 xl (Or.inr (Or.inl ⟨rfl, Nat.zero_le _, by have := w3 0; omega, by have := w3 0; omega⟩))).1.trans (w0.2 11 xl (Or.inr (Or.inl ⟨rfl, Nat.zero_le _, y7, by omega⟩))).1
            have hgo : ∀ (al' : List Nat) (xl' : Nat) (a6' : Int32) (yM : Wd), al' = anL al an → xl' = an.getD xl → STJ kd wr nm vv m z gA gM true 0 (C1 1) (s :: stk) ((p, sg1, q1) :: r) C1 TK1 SL1 t2 d (b + β) fa2 vA yM → P C1 t2 vA yM → OFF (fun k j => (k = 11 ∧ j = xl ∧ al ≠ [] ∧ an ≠ none) ∨ (k = 40 ∧ j = bk)) yM vM → (∀ x, an = some x → al ≠ [] → gi yM 11 xl = Int32.ofNat x) → gi yM 40 bk = (match al' with | [] => -1 | x :: _ => Int32.ofNat x) → (al' = [] → a6' = -1) → (al' ≠ [] → a6' = Int32.ofNat xl') → GLJ kd wr nm z gA gM wd true stkF fa2 B (bn2 (oX4_declarations_2 rc (fo + n + 1) (Int32.ofNat d) (Int32.ofNat (j + 1)) vA) fun _ u => KA u) (be (oX12_block_107 rm (fm + n + 1) (Int32.ofNat bk) (hdM stk) x12 a6' yM) KM) S := by
              intro al' xl' a6' yM hal hxl hsy hPy hO hset h40 ha0' ha1'
              have hxn : ∀ x, an = some x → C 0 ≤ x ∧ x < C1 0 ∧ gi yM 11 x = -1 := fun x hx => by
                obtain ⟨i1, i2, i3⟩ := w8 x hx
                refine ⟨i2, i3, ?_⟩
                rw [(hO 11 x (fun hq => by omega)).1, (v4.2.2.2.1 11 x (Or.inr (Or.inl ⟨rfl, Nat.zero_le _, i3, by omega⟩))).1]
                exact i1
              have h0 := w3 0
              refine ih true C1 TK1 SL1 t2 fa2 vA yM sg1 q1 al' xl' (j + 1) a6' (by omega) (by omega) hsy ha0' ha1' (fun _ => ⟨⟨Or.inl y0, yob.le w3⟩, by omega, y2.tr w3, by omega, y3', by have := y4; omega, by omega, by have := w3 3; omega, ?_, hPy, h40, ?_, fun fA fM hA hM hE => ?_⟩) (fun h => absurd h (by decide))
              · rw [hal, hxl]
                cases an with
                | none => exact ⟨by show xl < C1 0; omega, y7a, y7b⟩
                | some x =>
                  obtain ⟨i1, i2, i3⟩ := hxn x rfl
                  exact ⟨i2, fun _ => by show C0 0 ≤ x; have := y2 0; omega, fun h => absurd h (by unfold anL; simp)⟩
              · rw [hal, hxl]
                cases an with
                | none =>
                  intro hne
                  show gi yM 11 xl = -1
                  rw [(hO 11 xl (fun hq => by
                    rcases hq with hq | hq
                    · exact hq.2.2.2 rfl
                    · omega)).1, o11]
                  exact y10 hne
                | some x => exact fun _ => (hxn x rfl).2.2
              · have hxlt : xl' < C1 0 := by
                  rw [hxl]
                  cases an with
                  | none => show xl < C1 0; omega
                  | some x => exact (hxn x rfl).2.1
                have hM0 : ∀ k j, k ≠ 11 → k ≠ 40 → gi yM k j = gi vM k j ∧ gl yM k j = gl vM k j := fun k j h1 h2 => hO k j (by omega)
                have hset' : ∀ x, an = some x → al ≠ [] → gi fM 11 xl = Int32.ofNat x := fun x hx hne => by
                  have hx' : xl' = x := by rw [hxl, hx]; rfl
                  rw [(hM 11 xl (Or.inr (Or.inl ⟨rfl, y7a hne, by omega, by have := hxn x hx; omega⟩))).1]
                  exact hset x hx hne
                have f1 := v2.2.2 fA fM (EXTA.wk hA w3 (by omega) (fun _ h _ => h)) (fun k j hk => by
                  have hk' := (hM.wk (lo := C0 0) (C := C) (pd := xl) (Nat.le_refl _) w3 (by
                    rw [hxl]
                    cases an with
                    | none => exact Or.inl rfl
                    | some x => exact Or.inr (Or.inl (hxn x rfl).1))) k j hk
                  have h2 := hO k j (fun hq => by
                    rcases hq with hq | hq
                    · rcases hk with hk | hk | hk | hk | hk | hk | hk | hk | hk <;> omega
                    · rcases hk with hk | hk | hk | hk | hk | hk | hk | hk | hk <;> first | omega | exact hk.2.2 (by rw [hq.2]; exact hbo))
                  exact ⟨hk'.1.trans h2.1, hk'.2.trans h2.2⟩) ((EXF.off hO (fun k j hk => by omega)).tr hE)
                have f2 := v3.2.2 fA fM (EXTA.wk hA LEC.rf (by omega) (fun _ h _ => h)) (fun k j hk => by
                  have hk' := (hM.wk (lo := C 0) (C := C1) (pd := an.getD (C1 0)) (y2 0) LEC.rf (by
                    rw [hxl]
                    cases an with
                    | none => exact Or.inr (Or.inr (by show xl < C 0; omega))
                    | some x => exact Or.inl rfl)) k j hk
                  have h2 := hO k j (fun hq => by
                    rcases hq with hq | hq
                    · rcases hk with hk | hk | hk | hk | hk | hk | hk | hk | hk <;> omega
                    · rcases hk with hk | hk | hk | hk | hk | hk | hk | hk | hk <;> first | omega | exact hk.2.2 (by rw [hq.2]; exact hbo))
                  exact ⟨hk'.1.trans h2.1, hk'.2.trans h2.2⟩) ((EXF.off hO (fun k j hk => by omega)).tr hE)
                have := f1.next f2 z2 hset'
                rw [hal, hxl, z3]
                exact this
            -- the links
            cases an with
            | none =>
              show GLJ kd wr nm z gA gM wd true stkF fa2 B _ (be (if (0 : Int32) ≤ -1 then _ else _) KM) S
              rw [if_neg (by decide)]
              exact hgo al xl a6 vM rfl rfl hst2 v1 OFF.rf (fun x hx => absurd hx (by simp)) (o40.trans y9) ha0 ha1
            | some x =>
              obtain ⟨i1, i2, i3⟩ := w8 x rfl
              have hJ2 := (hst2.jl rfl).2
              have hx24 : C1 0 ≤ 20000 := by have := hJ2.2.2.2.2.2.1.1; have := hJ2.2.1.1.1; have := hJ2.2.1.2.1; omega
              show GLJ kd wr nm z gA gM wd true stkF fa2 B _ (be (if (0 : Int32) ≤ Int32.ofNat x then _ else _) KM) S
              rw [if_pos (zl_iN (by omega))]
              by_cases q0 : al = []
              · rw [ha0 q0, if_neg (show ¬ ((0 : Int32) ≤ -1) by decide), if_pos (inb_iN hbk (by omega)), tc_iN (by omega)]
                have hO4 : OFF (fun k j => k = 40 ∧ j = bk) (si vM 40 bk (Int32.ofNat x)) vM := OFF.si ⟨rfl, rfl⟩
                refine hgo (al ++ [x]) x (Int32.ofNat x) (si vM 40 bk (Int32.ofNat x)) rfl rfl (hst2.setB (fun _ => hO4.mono fun k j hk => by omega)) ?_ (hO4.mono fun k j hk => Or.inr hk) (fun _ _ h => absurd q0 h) ?_ (fun h => absurd h (by simp)) (fun _ => rfl)
                · exact hS sg1 q1 _ _ _ _ _ _ _ _ v1 ⟨LEC.rf, Nat.le_refl _, EXTA.rf, fun k j hk => hO4 k j (fun hq => by rcases hk with hk | hk | hk | hk | hk | hk | hk | hk | hk <;> first | omega | exact hk.2.2 (by rw [hq.2]; exact hbo)), EXF.off hO4 (fun k j hk => by omega)⟩
                · rw [q0]; exact gi_si0 _ _ _ _
              · rw [ha1 q0, if_pos (zl_iN (by omega)), if_pos (inb_iN (by omega) (by omega)), tc_iN (by omega)]
                have hO1 : OFF (fun k j => k = 11 ∧ j = xl) (si vM 11 xl (Int32.ofNat x)) vM := OFF.si ⟨rfl, rfl⟩
                have hse : ∀ f : Wd → Option (Option Int32 × Wd), be (lt (si vM 11 xl (Int32.ofNat x)) f) KM = lt (si vM 11 xl (Int32.ofNat x)) fun w => be (f w) KM := fun _ => rfl
                rw [hse]
                refine J.setM (obl := []) (P := fun _ _ _ _ => True) hT (fun _ _ _ _ _ _ _ _ _ _ => trivial) hst2 (fun _ => trivial) (fun _ => Or.inr (Or.inr (Or.inr rfl))) (fun _ => trivial) (fun hst3 => ?_)
                refine hgo (al ++ [x]) x (Int32.ofNat x) (si vM 11 xl (Int32.ofNat x)) rfl rfl hst3 ?_ (hO1.mono fun k j hk => Or.inl ⟨hk.1, hk.2, q0, by simp⟩) (fun x' hx' _ => by cases hx'; exact gi_si0 _ _ _ _) ?_ (fun h => absurd h (by simp)) (fun _ => rfl)
                · exact hP11 _ _ _ _ _ _ (y7a q0) v1
                · rw [gi_si1 (by omega), o40, y9]
                  cases al with
                  | nil => exact absurd rfl q0
                  | cons a r => rfl
      · rw [if_neg hk, if_neg hk]
        refine HX true t fa wA wM C TK SL sg q al j hst (fun _ => ⟨y00, y1, hJ.2.1.2.1, y2, y3, y4, y5, y8, y9, ?_⟩) hdd
        have f1 := y11.wk (lo' := C0 0) (Cf' := C) (tf' := t) (pd' := C 0) (stk' := s :: stk) (prs' := (p, sg, q) :: r) (obl' := obl) (Nat.le_refl _) LEC.rf (Nat.le_refl _) (Or.inr (Or.inl (Nat.le_refl _))) (fun _ h _ => h) (fun y hy _ => ⟨y, hy, rfl⟩) (fun _ h _ => h)
        have f2 : FACT (s :: stk) ((p, sg, q) :: r) obl (C0 0) C t (C 0) (fun _ fM => al ≠ [] → gi fM 11 xl = -1) wA wM := fun fA fM hA hM _ hne => (hM 11 xl (Or.inr (Or.inl ⟨rfl, y7a hne, y7, by omega⟩))).1.trans (y10 hne)
        exact (f1.and f2).imp (fun fA fM hh => by
          have := hh.1 0 t sg q [] C ⟨rfl, rfl, rfl, rfl, rfl, hk⟩ hh.2
          rw [List.append_nil] at this
          exact this)
end JT
