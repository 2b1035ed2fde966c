/-! BOTH SIDES: a DECL, as DSPL -/
section JT
variable {kd wr nm : Nat → Nat} {vv : Nat → Int64} {m z : Nat} {gA gM : Wd} {lv : Bool} {sl us B : Nat} {stk obl stkF : List Nat} {prs : PRL} {C TK : Nat → Nat} {SL : Nat → List Nat} {t d b : Nat} {fa : Int32} {wA wM : Wd} {γ α : Type} {wd : γ → Wd} {S : γ → α → Wd → Prop} {P : (Nat → Nat) → Nat → Wd → Wd → Prop}
theorem bn2_lt2 {α β δ : Type} (p : α × Wd) (f : α → Wd → Option (β × Wd)) (K : β → Wd → Option δ) : bn2 (lt2 p f) K = lt2 p (fun x w => bn2 (f x w) K) := rfl
theorem be_ok1 {α β : Type} (x : β) (w : Wd) (K : β → Wd → Option (Option α × Wd)) : be (some (some x, w)) K = K x w := rfl
/-- a type, on both sides -/
theorem J.typ (hT : TOKS kd wr nm vv m z gA gM) (hS : STBJ stk prs obl P) (hst : STJ kd wr nm vv m z gA gM true sl us stk prs C TK SL t d b fa wA wM) (hP : P C t wA wM) {ty : Nat} (hty : kd t = 6 + ty ∧ 1 ≤ ty ∧ ty ≤ 2) (hd : d ≤ 40) (hs1 : sl ≤ 1) {KA : Int32 → Wd → Option γ} {KM : Int32 → Wd → Option (Option α × Wd)}
    (H : ∀ uA uM, STJ kd wr nm vv m z gA gM true 0 us stk prs C TK SL (t + 1) d b fa uA uM → t + 1 ≤ m → P C (t + 1) uA uM → GLJ kd wr nm z gA gM wd true stkF fa B (KA (Int32.ofNat ty) uA) (KM (Int32.ofNat ty) uM) S) :
    GLJ kd wr nm z gA gM wd true stkF fa B (lt2 (fX4_type wA) KA) (be (fX12_taken wM) fun x13 w14 => if inb x13 8194 = true then lt (fX12_typeOf (gi w14 2 (Int32.toNatClampNeg x13)) w14) fun x17 => KM x17 w14 else none) S := by
  have hJ := (hst.jl rfl).2
  have hz3 := hT.2.2.2.1
  have hzm := hT.2.2.1
  have htm := hJ.2.1.lt (by omega)
  rw [a_type hst.in1]
  by_cases q7 : kd t = 7
  · have e1 : ty = 1 := by omega
    subst e1
    rw [if_pos q7, m_taken hJ.2.1 hd (by omega), ← m_expect (x := 259) (k := 7) hJ.2.1 hd rfl (by omega) q7]
    refine J.ok hT hS hst hP (c := 7) (by omega) hd hs1 q7 rfl (fun uA uM h1 h2 h3 h4 => ?_)
    show GLJ kd wr nm z gA gM wd true stkF fa B (KA 1 uA) (if inb (Int32.ofNat t) 8194 = true then lt (fX12_typeOf (gi uM 2 (Int32.toNatClampNeg (Int32.ofNat t))) uM) fun x17 => KM x17 uM else none) S
    rw [if_pos (inb_iN (by omega) (by omega)), tc_iN (by omega), h4]
    exact H uA uM h1 h2 h3
  · have e1 : ty = 2 := by omega
    subst e1
    have q8 : kd t = 8 := by omega
    rw [if_neg q7, if_pos q8, m_taken hJ.2.1 hd (by omega), ← m_expect (x := 260) (k := 8) hJ.2.1 hd rfl (by omega) q8]
    refine J.ok hT hS hst hP (c := 8) (by omega) hd hs1 q8 rfl (fun uA uM h1 h2 h3 h4 => ?_)
    show GLJ kd wr nm z gA gM wd true stkF fa B (KA 2 uA) (if inb (Int32.ofNat t) 8194 = true then lt (fX12_typeOf (gi uM 2 (Int32.toNatClampNeg (Int32.ofNat t))) uM) fun x17 => KM x17 uM else none) S
    rw [if_pos (inb_iN (by omega) (by omega)), tc_iN (by omega), h4]
    exact H uA uM h1 h2 h3
/-- the reference's way with a type -/
def TYM (rm : TX12_block) (a1 : Int32) (ow : Bool) (w11 : Wd) : Option (Option Int32 × Wd) := be (fX12_taken w11) fun x13 w14 => if inb x13 8194 = true then lt (fX12_typeOf (gi w14 2 (Int32.toNatClampNeg x13)) w14) fun x17 => fX12_declaration_58 rm a1 ow x17 w14 else none
theorem be_TYM {rm : TX12_block} {a1 : Int32} {ow : Bool} {w : Wd} {KM : Int32 → Wd → Option (Option α × Wd)} : be (TYM rm a1 ow w) KM = be (fX12_taken w) fun x13 w14 => if inb x13 8194 = true then lt (fX12_typeOf (gi w14 2 (Int32.toNatClampNeg x13)) w14) fun x17 => be (fX12_declaration_58 rm a1 ow x17 w14) KM else none := by
  unfold TYM
  rw [be_be]
  refine be_cg (fun x v => ?_)
  by_cases hb : inb x 8194 = true
  · rw [if_pos hb, if_pos hb, ltq, ltq]
  · rw [if_neg hb, if_neg hb]
    rfl
def DTL (rm : TX12_block) (a1 : Int32) (x7 : Bool) (w8 : Wd) : Option (Option Int32 × Wd) := bn2 (fX12_isType w8) fun x10 w11 => if x10 = true then TYM rm a1 x7 w11 else (if x7 = true then (bn (fX12_bad w11) fun w19 => some (none, w19)) else (fX12_declaration_58 rm a1 x7 0 w11))
theorem m_dtl {rm : TX12_block} {a1 : Int32} {x7 : Bool} {w : Wd} (h : SM kd wr m w t d) : DTL rm a1 x7 w = if kd t = 7 ∨ kd t = 8 then TYM rm a1 x7 w else if x7 = true then (bn (fX12_bad w) fun w19 => some (none, w19)) else fX12_declaration_58 rm a1 x7 0 w := by
  unfold DTL
  rw [m_isType h]
  by_cases q : kd t = 7 ∨ kd t = 8
  · rw [if_pos q, decide_eq_true q]
    rw [show ∀ f : Bool → Wd → Option (Option Int32 × Wd), bn2 (some (true, w)) f = f true w from fun _ => rfl, if_pos rfl]
  · rw [if_neg q, decide_eq_false q]
    rw [show ∀ f : Bool → Wd → Option (Option Int32 × Wd), bn2 (some (false, w)) f = f false w from fun _ => rfl, if_neg (by decide)]
theorem m_dcl {rm : TX12_block} {a1 : Int32} {w : Wd} {KM : Int32 → Wd → Option (Option α × Wd)} (h : SM kd wr m w t d) : be (fX12_declaration rm a1 w) KM = if kd t = 13 then be (be (fX12_aSwitch w) fun _ w5 => some (some (-1), w5)) KM else be (fX12_skip 258 w) fun x7 w8 => be (DTL rm a1 x7 w8) KM := by
  have h50 := h.1.2.2.2.1
  unfold fX12_declaration
  rw [m_kq h]
  by_cases q : kd t = 13
  · rw [if_pos q, if_pos ((kq h50 (k := 13) (x := 265) rfl (by omega)).mpr q)]
  · rw [if_neg q, if_neg (fun e => q ((kq h50 (k := 13) (x := 265) rfl (by omega)).mp e)), be_be]
    rfl
theorem m_108no {rm : TX12_block} {ow : Bool} {ty : Int32} {KM K2 : Int32 → Wd → Option (Option α × Wd)} (h : SM kd wr m wM t d) (q2 : kd t ≠ 2) (q9 : kd t ≠ 9) : be (oX12_declaration_108 rm FU ow ty wM) KM = be (fX12_expect 261 wM) K2 := by
  obtain ⟨fo, hfo⟩ := FU_ge (k := 1) (by omega)
  rw [hfo]
  have e : oX12_declaration_108 rm (fo + 1) ow ty wM = fX12_declaration_108 rm (oX12_declaration_108 rm fo) ow ty wM := rfl
  rw [e, m_v108, m_expect_no (x := 285) (k := 2) h rfl (by omega) (Or.inr q2) (by omega), m_expect_no (x := 261) (k := 9) h rfl (by omega) (Or.inr q9) (by omega)]
  rfl
/-- the end of a DECL, with all that's older kept -/
def DHH (kd wr nm : Nat → Nat) (vv : Nat → Int64) (m z : Nat) (gA gM : Wd) (d : Nat) (W : Wd → Wd → PSTT) {γ α : Type} (wd : γ → Wd) (S : γ → α → Wd → Prop) (stkF : List Nat) (B s : Nat) (stk obl : List Nat) (p sg q : Nat) (r : PRL) (C : Nat → Nat) (t b : Nat) (wA wM : Wd) (KA : Int32 → Wd → Option γ) (KM : Int32 → Wd → Option (Option α × Wd)) : Prop :=
  ∀ lv' x t' fa' uA uM C' TK' SL' sg' q' (an : Option Nat), STJ kd wr nm vv m z gA gM lv' 1 (C' 1) (s :: stk) ((p, sg', q') :: r) C' TK' SL' t' d b fa' uA uM → (lv' = true → t < t' ∧ t' ≤ m ∧ LEC C C' ∧ C' 0 + 2 * t ≤ C 0 + 2 * t' ∧ C' 6 + C 4 = C' 4 + C 6 ∧ sg ≤ sg' ∧ STEP C t (s :: stk) ((p, sg, q) :: r) obl wA wM C' t' uA uM ∧ (∀ x, an = some x → gi uM 11 x = -1 ∧ C 0 ≤ x ∧ x < C' 0) ∧ FACT (s :: stk) ((p, sg', q') :: r) obl (C 0) C' t' (an.getD (C' 0)) (fun fA fM => DCLX kd fA fM (W fA fM) d (s :: stk) (hdM stk) p r t t' sg sg' q q' an C C') uA uM) → (lv' = false → t' = z - 1) → GLJ kd wr nm z gA gM wd lv' stkF fa' B (KA x uA) (KM (match an with | none => -1 | some x => Int32.ofNat x) uM) S
theorem J.dbeh (hT : TOKS kd wr nm vv m z gA gM) {rc : TX4_block} {rm : TX12_block} {β s p sg q ty t0 : Nat} {stk : List Nat} {r : PRL} {wA0 wM0 : Wd} {W : Wd → Wd → PSTT} {KA : Int32 → Wd → Option γ} {KM : Int32 → Wd → Option (Option α × Wd)} (hPR : PRC kd wr nm vv m z gA gM (fun x w => rc 3 (Int32.ofNat d) x 0 w) (fun x w => rm 2 x 0 0 w) d β W) (hst : STJ kd wr nm vv m z gA gM true 0 (C 1) (s :: stk) ((p, sg, q) :: r) C TK SL t d b fa wA wM)
    (hpre : ty = 0 ∧ t = t0 ∧ (kd t = 9 ∨ kd t = 10) ∨ 1 ≤ ty ∧ ty ≤ 2 ∧ kd t0 = 6 + ty ∧ t = t0 + 1) (hd40 : d ≤ 40) (hz2 : 2 ≤ z) (hc0 : C 0 ≤ 2 * t0 + 98) (hob : OBK d r C obl) (hstep : STEP C t0 (s :: stk) ((p, sg, q) :: r) obl wA0 wM0 C t wA wM) (hb : 2800 ≤ b) (hbb : b + β ≤ 3900)
    (H : DHH kd wr nm vv m z gA gM d W wd S stkF B s stk obl p sg q r C t0 (b + β) wA0 wM0 KA KM) :
    GLJ kd wr nm z gA gM wd true stkF fa B (bn2 (fX4_declaration_33 rc (Int32.ofNat d) false (Int32.ofNat ty) wA) KA) (be (fX12_declaration_58 rm (hdM stk) false (Int32.ofNat ty) wM) KM) S := by
  have hJ := (hst.jl rfl).2
  have hin := hst.in1
  rw [a_33 hin (by omega), m_58 hJ.2.1 hd40 (by omega)]
  have hty : 1 ≤ (if ty = 0 then 1 else ty) ∧ (if ty = 0 then 1 else ty) ≤ 2 := by
    by_cases q0 : ty = 0
    · rw [if_pos q0]; omega
    · rw [if_neg q0]; omega
  by_cases q2 : kd t = 2
  · rw [if_pos q2, if_neg (show ¬ kd t = 9 by omega), if_neg (show ¬ kd t = 10 by omega)]
    refine J.vars (t0 := t0) (wA0 := wA0) (wM0 := wM0) (obl := obl) (W := W) (ty := ty) (ow := false) hT (by omega) hb hst (fun _ => ⟨hd40, Or.inr ⟨rfl, by omega⟩, ?_, hstep⟩) (fun h => absurd h (by decide)) (by omega) (fun lv' x t' fa' uA uM C' TK' SL' sg' q' an h1 h2 h3 => H lv' x t' fa' uA uM C' TK' SL' sg' q' an (h1.bw (Or.inl (by omega))) (fun h => (h2 h).2) h3)
    rw [show t - 1 = t0 by omega]
    omega
  rw [if_neg q2]
  by_cases q10 : kd t = 10
  · have hpr : kd t0 = 10 ∧ t = t0 ∧ ty = 0 ∨ kd t0 = 6 + ty ∧ 1 ≤ ty ∧ ty ≤ 2 ∧ t = t0 + 1 := by
      rcases hpre with ⟨h1, h2, h3⟩ | ⟨h1, h2, h3, h4⟩
      · exact Or.inl ⟨by rw [← h2]; exact q10, h2, h1⟩
      · exact Or.inr ⟨h3, h1, h2, h4⟩
    rw [if_pos q10, if_neg (show ¬ kd t = 9 by omega), if_pos q10]
    refine hPR γ α wd S stkF B s stk obl p sg q ty t0 r C TK SL t b fa wA0 wM0 wA wM (fun w => KA 0 w) (fun w => KM (-1) w) hst q10 hd40 hpr hc0 hob hstep hb hbb (fun lv' t' fa' uA uM C' TK' SL' sg' q' h1 h2 h3 => ?_)
    refine H lv' 0 t' fa' uA uM C' TK' SL' sg' q' none h1 (fun h => ?_) h3
    obtain ⟨y1, y2, y3, y4, y5, y6, y7, y8⟩ := h2 h
    exact ⟨y1, y2, y3, y4, y5, y6, y7, fun x hx => absurd hx (by simp), y8⟩
  rw [if_neg q10, if_neg (show ¬ (kd t = 13 ∧ ty = 0) by omega)]
  have e : (if kd t = 9 then (be (fX12_expect 261 wM) fun _ w2 => be (oX12_arrays_11 FU (Int32.ofNat (if ty = 0 then 1 else ty)) (hdM stk) (gi w2 0 42) w2) KM) else if kd t = 10 then (be (rm 2 (Int32.ofNat ty) 0 0 wM) fun _ w => KM (-1) w) else be (oX12_declaration_108 rm FU false (Int32.ofNat ty) wM) KM) = be (fX12_expect 261 wM) fun _ w2 => be (oX12_arrays_11 FU (Int32.ofNat (if ty = 0 then 1 else ty)) (hdM stk) (gi w2 0 42) w2) KM := by
    by_cases q9 : kd t = 9
    · rw [if_pos q9]
    · rw [if_neg q9, if_neg q10]
      exact m_108no hJ.2.1 q2 q9
  rw [e]
  refine J.arrs (t0 := t0) (wA0 := wA0) (wM0 := wM0) (obl := obl) (W := W) hT hty hb hst hz2 hd40 ?_ hc0 hstep (fun lv' x t' fa' uA uM C' TK' SL' sg' q' an h1 h2 h3 => H lv' x t' fa' uA uM C' TK' SL' sg' q' an (h1.bw (Or.inl (by omega))) h2 h3)
  by_cases q0 : ty = 0
  · rw [if_pos q0]
    rcases hpre with ⟨h1, h2, h3⟩ | ⟨h1, h2, h3, h4⟩
    · exact Or.inl ⟨by rw [← h2]; omega, h2, rfl⟩
    · omega
  · rw [if_neg q0]
    exact Or.inr (by omega)
theorem bn2_lt0 {δ : Type} (p : Wd) (K : Int32 → Wd → Option δ) : bn2 (lt p fun w7 => some ((0 : Int32), w7)) K = lt p (fun w => K 0 w) := rfl
/-- own VARIABLES -/
theorem J.down (hT : TOKS kd wr nm vv m z gA gM) {rc : TX4_block} {rm : TX12_block} {β s p sg q : Nat} {stk : List Nat} {r : PRL} {W : Wd → Wd → PSTT} {KA : Int32 → Wd → Option γ} {KM : Int32 → Wd → Option (Option α × Wd)} (hst : STJ kd wr nm vv m z gA gM true 0 (C 1) (s :: stk) ((p, sg, q) :: r) C TK SL t d b fa wA wM) (q6 : kd t = 6) (hd40 : d ≤ 40) (hb : 2800 ≤ b)
    (H : DHH kd wr nm vv m z gA gM d W wd S stkF B s stk obl p sg q r C t (b + β) wA wM KA KM) :
    GLJ kd wr nm z gA gM wd true stkF fa B (lt (fX9_need (Int32.ofNat 6) wA) fun w2 => lt2 (fX4_type w2) fun x3 w4 => bn2 (if true = true then (if x3 = 0 then (lt (fX9_fail w4) fun w7 => some (0, w7)) else fX4_declaration_33 rc (Int32.ofNat d) true x3 w4) else fX4_declaration_33 rc (Int32.ofNat d) true x3 w4) KA) (be (fX12_expect 258 wM) fun _ w => be (DTL rm (hdM stk) true w) KM) S := by
  have hQ : STBJ (s :: stk) ((p, sg, q) :: r) obl (fun C' t' a c => STEP C t (s :: stk) ((p, sg, q) :: r) obl wA wM C' t' a c) := fun _ _ _ _ _ _ _ _ h g => STEP.tr h g
  refine J.ok (P := fun C' t' a c => STEP C t (s :: stk) ((p, sg, q) :: r) obl wA wM C' t' a c) hT hQ hst STEP.rf (c := 6) (x := 258) (by omega) hd40 (by omega) q6 rfl (fun uA uM h1 h2 h3 _ => ?_)
  have hJ1 := (h1.jl rfl).2
  rw [m_dtl hJ1.2.1]
  by_cases q78 : kd (t + 1) = 7 ∨ kd (t + 1) = 8
  · rw [if_pos q78, be_TYM]
    obtain ⟨ty, e1, e2⟩ : ∃ ty, kd (t + 1) = 6 + ty ∧ 1 ≤ ty ∧ ty ≤ 2 := ⟨kd (t + 1) - 6, by omega, by omega, by omega⟩
    refine J.typ (P := fun C' t' a c => STEP C t (s :: stk) ((p, sg, q) :: r) obl wA wM C' t' a c) hT hQ h1 h3 ⟨e1, e2⟩ hd40 (by omega) (fun vA vM g1 g2 g3 => ?_)
    rw [if_pos (show true = true from rfl), if_neg (show ¬ (Int32.ofNat ty = 0) from fun e => absurd ((eq_iN (a := ty) (b := 0) (by omega) (by omega)).mp e) (by omega))]
    unfold fX4_declaration_33 fX12_declaration_58 fX12_declaration_87
    rw [if_pos (show true = true from rfl), if_pos (show true = true from rfl), if_pos (show true = true from rfl), bn2_bn1 (β := Unit)]
    exact J.vars (t0 := t) (wA0 := wA) (wM0 := wM) (obl := obl) (W := W) (ty := ty) (ow := true) hT (by omega) hb g1 (fun _ => ⟨hd40, Or.inl ⟨rfl, q6, rfl⟩, e1, g3⟩) (fun h => absurd h (by decide)) (by omega) (fun lv' x t' fa' uA uM C' TK' SL' sg' q' an h1 h2 h3 => H lv' x t' fa' uA uM C' TK' SL' sg' q' an (h1.bw (Or.inl (by omega))) (fun h => (h2 h).2) h3)
  · have q7 : kd (t + 1) ≠ 7 := fun e => q78 (Or.inl e)
    have q8 : kd (t + 1) ≠ 8 := fun e => q78 (Or.inr e)
    rw [if_neg q78, a_type h1.in1, if_neg q7, if_neg q8, if_pos (show true = true from rfl), if_pos (show (0 : Int32) = 0 from rfl), if_pos (show true = true from rfl), a_failn h1.in1.1 (k := 7) (by omega) q7, bad_need (k := 7) (x := 259) (K2 := fun _ w => KM (-1) w) (f := fun _ => none) hJ1.2.1 rfl (by omega) q7, bn2_lt0]
    refine J.need (KA := fun w => KA 0 w) (P := fun C' t' a c => STEP C t (s :: stk) ((p, sg, q) :: r) obl wA wM C' t' a c) hT hQ h1 (fun _ => h3) (c := 7) (x := 259) (by omega) (fun _ => hd40) hb (by omega) rfl (fun lv1 t1 fa1 vA vM g1 g2 g3 => ?_)
    cases lv1
    · exact H false 0 t1 fa1 vA vM C TK SL sg q none ((g1.dd rfl).bw (Or.inl (by omega))) (fun h => absurd h (by decide)) g3
    · exact absurd (g2 rfl).2.1 q7
/-- what isn't own -/
theorem J.dnot (hT : TOKS kd wr nm vv m z gA gM) {rc : TX4_block} {rm : TX12_block} {β s p sg q : Nat} {stk : List Nat} {r : PRL} {W : Wd → Wd → PSTT} {KA : Int32 → Wd → Option γ} {KM : Int32 → Wd → Option (Option α × Wd)} (hPR : PRC kd wr nm vv m z gA gM (fun x w => rc 3 (Int32.ofNat d) x 0 w) (fun x w => rm 2 x 0 0 w) d β W) (hst : STJ kd wr nm vv m z gA gM true 0 (C 1) (s :: stk) ((p, sg, q) :: r) C TK SL t d b fa wA wM) (hq : kd t = 7 ∨ kd t = 8 ∨ kd t = 9 ∨ kd t = 10) (hd40 : d ≤ 40) (hz2 : 2 ≤ z) (hc0 : C 0 ≤ 2 * t + 98) (hob : OBK d r C obl) (hb : 2800 ≤ b) (hbb : b + β ≤ 3900)
    (H : DHH kd wr nm vv m z gA gM d W wd S stkF B s stk obl p sg q r C t (b + β) wA wM KA KM) :
    GLJ kd wr nm z gA gM wd true stkF fa B (lt2 (fX4_type wA) fun x3 w4 => bn2 (if false = true then (if x3 = 0 then (lt (fX9_fail w4) fun w7 => some (0, w7)) else fX4_declaration_33 rc (Int32.ofNat d) false x3 w4) else fX4_declaration_33 rc (Int32.ofNat d) false x3 w4) KA) (be (DTL rm (hdM stk) false wM) KM) S := by
  have hJ := (hst.jl rfl).2
  have hin := hst.in1
  have hQ : STBJ (s :: stk) ((p, sg, q) :: r) obl (fun C' t' a c => STEP C t (s :: stk) ((p, sg, q) :: r) obl wA wM C' t' a c) := fun _ _ _ _ _ _ _ _ h g => STEP.tr h g
  rw [m_dtl hJ.2.1]
  by_cases q78 : kd t = 7 ∨ kd t = 8
  · rw [if_pos q78, be_TYM]
    obtain ⟨ty, e1, e2⟩ : ∃ ty, kd t = 6 + ty ∧ 1 ≤ ty ∧ ty ≤ 2 := ⟨kd t - 6, by omega, by omega, by omega⟩
    refine J.typ (P := fun C' t' a c => STEP C t (s :: stk) ((p, sg, q) :: r) obl wA wM C' t' a c) hT hQ hst STEP.rf ⟨e1, e2⟩ hd40 (by omega) (fun vA vM g1 g2 g3 => ?_)
    rw [if_neg (show ¬ (false = true) by decide)]
    exact J.dbeh hT hPR g1 (Or.inr ⟨e2.1, e2.2, e1, rfl⟩) hd40 hz2 hc0 hob g3 hb hbb H
  · rw [if_neg q78, if_neg (show ¬ (false = true) by decide), a_type hin, if_neg (show ¬ kd t = 7 by omega), if_neg (show ¬ kd t = 8 by omega), if_neg (show ¬ (false = true) by decide), show (0 : Int32) = Int32.ofNat 0 from rfl]
    exact J.dbeh (ty := 0) hT hPR hst (Or.inl ⟨rfl, rfl, by omega⟩) hd40 hz2 hc0 hob STEP.rf hb hbb H
theorem a_dcl6 {rc : TX4_block} {a1 : Int32} {w : Wd} {KA : Int32 → Wd → Option γ} (h : CT kd wr true z w t fa) (q6 : kd t = 6) : bn2 (fX4_declaration rc a1 w) KA = lt (fX9_need (Int32.ofNat 6) w) fun w2 => lt2 (fX4_type w2) fun x3 w4 => bn2 (if true = true then (if x3 = 0 then (lt (fX9_fail w4) fun w7 => some (0, w7)) else fX4_declaration_33 rc a1 true x3 w4) else fX4_declaration_33 rc a1 true x3 w4) KA := by
  unfold fX4_declaration
  rw [bn2_lt2, show (6 : Int32) = Int32.ofNat 6 from rfl, take_need h (by omega) q6]
  generalize fX9_need (Int32.ofNat 6) w = u
  rw [ltq, ltq, bn2_lt2]
theorem a_dcln {rc : TX4_block} {a1 : Int32} {w : Wd} {KA : Int32 → Wd → Option γ} (h : CT kd wr true z w t fa) (q6 : kd t ≠ 6) : bn2 (fX4_declaration rc a1 w) KA = lt2 (fX4_type w) fun x3 w4 => bn2 (if false = true then (if x3 = 0 then (lt (fX9_fail w4) fun w7 => some (0, w7)) else fX4_declaration_33 rc a1 false x3 w4) else fX4_declaration_33 rc a1 false x3 w4) KA := by
  unfold fX4_declaration
  rw [bn2_lt2, show (6 : Int32) = Int32.ofNat 6 from rfl, a_take_no h (by omega) q6, lt2q, bn2_lt2]
theorem dspl_decl (hT : TOKS kd wr nm vv m z gA gM) {rc : TX4_block} {rm : TX12_block} {β : Nat} {W : Wd → Wd → PSTT} (hPR : PRC kd wr nm vv m z gA gM (fun x w => rc 3 (Int32.ofNat d) x 0 w) (fun x w => rm 2 x 0 0 w) d β W) (hz2 : 2 ≤ z) : DSPL kd wr nm vv m z gA gM (fun w => fX4_declaration rc (Int32.ofNat d) w) (fun o w => fX12_declaration rm o w) (fun t => isD (kd t) ∧ d ≤ 40) d β W := by
  intro γ α wd S stkF B s stk obl p sg q r C TK SL t b fa wA wM P KA KM hS hst hP hpre hc0 hob hb hbb H
  have hJ := (hst.jl rfl).2
  have hin := hst.in1
  obtain ⟨hpre', hd40⟩ : (kd t = 6 ∨ kd t = 7 ∨ kd t = 8 ∨ kd t = 9 ∨ kd t = 10 ∨ kd t = 13) ∧ d ≤ 40 := hpre
  have H' : DHH kd wr nm vv m z gA gM d W wd S stkF B s stk obl p sg q r C t (b + β) wA wM KA KM := fun lv' x t' fa' uA uM C' TK' SL' sg' q' an h1 h2 h3 => H lv' x t' fa' uA uM C' TK' SL' sg' q' an h1 (fun h => by
    obtain ⟨y1, y2, y3, y4, y5, y6, y7, y8, y9⟩ := h2 h
    exact ⟨y1, y2, y3, y4, y5, y6, hS _ _ _ _ _ _ _ _ hP y7, y8, y9⟩) h3
  clear H hP hS
  show GLJ kd wr nm z gA gM wd true stkF fa B (bn2 (fX4_declaration rc (Int32.ofNat d) wA) KA) (be (fX12_declaration rm (hdM stk) wM) KM) S
  rw [m_dcl hJ.2.1]
  by_cases q6 : kd t = 6
  · rw [if_neg (show ¬ kd t = 13 by omega), skip_need (k := 6) (x := 258) hJ.2.1 hd40 rfl (by omega) q6, a_dcl6 hin.1 q6]
    exact J.down hT hst q6 hd40 hb H'
  rw [a_dcln hin.1 q6]
  by_cases q13 : kd t = 13
  · rw [if_pos q13, a_type hin, if_neg (show ¬ kd t = 7 by omega), if_neg (show ¬ kd t = 8 by omega), if_neg (show ¬ (false = true) by decide), show (0 : Int32) = Int32.ofNat 0 from rfl, a_33 hin (by omega), if_neg (show ¬ kd t = 2 by omega), if_neg (show ¬ kd t = 10 by omega), if_pos (show kd t = 13 ∧ 0 = 0 from ⟨q13, rfl⟩)]
    exact J.swi (obl := obl) (W := W) hT hb hst q13 hd40 hc0 (fun lv' x t' fa' uA uM C' TK' SL' sg' q' an h1 h2 h3 => H' lv' x t' fa' uA uM C' TK' SL' sg' q' an (h1.bw (Or.inl (by omega))) h2 h3)
  rw [if_neg q13, m_skip_no (k := 6) (x := 258) hJ.2.1 rfl (by omega) q6, be_ok1]
  exact J.dnot hT hPR hst (by omega) hd40 hz2 hc0 hob hb hbb H'
end JT
