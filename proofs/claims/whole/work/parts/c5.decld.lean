/-! BOTH SIDES: a DECL -/
section JT
variable {kd wr nm : Nat → Nat} {vv : Nat → Int64} {m z : Nat} {gA gM : Wd} {lv : Bool} {sl us B : Nat} {stk obl stkF : List Nat} {prs : PRL} {C TK : Nat → Nat} {SL : Nat → List Nat} {t d b : Nat} {fa : Int32} {wA wM : Wd} {γ α : Type} {wd : γ → Wd} {S : γ → α → Wd → Prop} {P : (Nat → Nat) → Nat → Wd → Wd → Prop}
/-- a TOKEN that is there -/
theorem J.ok (hT : TOKS kd wr nm vv m z gA gM) (hS : STBJ stk prs obl P) (hst : STJ kd wr nm vv m z gA gM true sl us stk prs C TK SL t d b fa wA wM) (hP : P C t wA wM) {c : Nat} (hc : 2 ≤ c ∧ c ≤ 50) (hd : d ≤ 40) (hs1 : sl ≤ 1) (hk : kd t = c) {KA : Wd → Option γ} {KM : Int32 → Wd → Option (Option α × Wd)} {x : Int32} (hx : x = Int32.ofNat (kM c))
    (H : ∀ uA uM, STJ kd wr nm vv m z gA gM true 0 us stk prs C TK SL (t + 1) d b fa uA uM → t + 1 ≤ m → P C (t + 1) uA uM → gi uM 2 t = Int32.ofNat (kM c) → GLJ kd wr nm z gA gM wd true stkF fa B (KA uA) (KM (Int32.ofNat t) uM) S) :
    GLJ kd wr nm z gA gM wd true stkF fa B (lt (fX9_need (Int32.ofNat c) wA) KA) (be (fX12_expect x wM) KM) S := by
  have hJ := (hst.jl rfl).2
  have e1 : lt (fX9_need (Int32.ofNat c) wA) KA = lt2 (fX9_take (Int32.ofNat c) wA) (fun bb u => if bb = true then KA u else none) := by
    rw [take_need hst.in1.1 (by omega) hk (by omega)]
    rfl
  have e2 : be (fX12_expect x wM) KM = be (fX12_skip x wM) (fun bb u => if bb = true then KM (Int32.ofNat t) u else none) := by
    rw [m_expect hJ.2.1 hd hx (by omega) hk, m_skip hJ.2.1 hd hx (by omega) hk]
    rfl
  rw [e1, e2]
  refine J.take hT hS hst (fun _ => hP) hc (fun _ => hd) hs1 hx (fun _ uA uM h1 h2 => ?_) (fun hn => absurd hk hn)
  rw [if_pos rfl, if_pos rfl]
  have hg : gi uM 2 t = Int32.ofNat (kM c) := by
    have := ((h1.jl rfl).2.2.1.1.2.2.2.2 t (by have := (h2 rfl).1; omega)).1
    rw [hk] at this
    exact this
  exact H uA uM h1 (h2 rfl).1 (h2 rfl).2 hg
/-- what both functions of a procedure come to -/
def PRC (kd wr nm : Nat → Nat) (vv : Nat → Int64) (m z : Nat) (gA gM : Wd) (rA : Int32 → Wd → Option (Int32 × Wd)) (rM : Int32 → Wd → Option (Option Int32 × Wd)) (d β : Nat) (W : Wd → Wd → PSTT) : Prop :=
  ∀ (γ α : Type) (wd : γ → Wd) (S : γ → α → Wd → Prop) (stkF : List Nat) (B : Nat) (s : Nat) (stk obl : List Nat) (p sg q ty t0 : Nat) (r : PRL) (C TK : Nat → Nat) (SL : Nat → List Nat) (t b : Nat) (fa : Int32) (wA0 wM0 wA wM : Wd) (KA : Wd → Option γ) (KM : Wd → Option (Option α × Wd)),
    STJ kd wr nm vv m z gA gM true 0 (C 1) (s :: stk) ((p, sg, q) :: r) C TK SL t d b fa wA wM → kd t = 10 → d ≤ 40 → (kd t0 = 10 ∧ t = t0 ∧ ty = 0 ∨ kd t0 = 6 + ty ∧ 1 ≤ ty ∧ ty ≤ 2 ∧ t = t0 + 1) → C 0 ≤ 2 * t0 + 98 → OBK d r C obl → STEP C t0 (s :: stk) ((p, sg, q) :: r) obl wA0 wM0 C t wA wM → 2800 ≤ b → b + β ≤ 3900 →
    (∀ lv' t' fa' uA uM C' TK' SL' sg' q', STJ kd wr nm vv m z gA gM lv' 1 (C' 1) (s :: stk) ((p, sg', q') :: r) C' TK' SL' t' d (b + β) fa' uA uM → (lv' = true → t0 < t' ∧ t' ≤ m ∧ LEC C C' ∧ C' 0 + 2 * t0 ≤ C 0 + 2 * t' ∧ C' 6 + C 4 = C' 4 + C 6 ∧ sg ≤ sg' ∧ STEP C t0 (s :: stk) ((p, sg, q) :: r) obl wA0 wM0 C' t' uA uM ∧ FACT (s :: stk) ((p, sg', q') :: r) obl (C 0) C' t' (C' 0) (fun fA fM => DCLX kd fA fM (W fA fM) d (s :: stk) (hdM stk) p r t0 t' sg sg' q q' none C C') uA uM) → (lv' = false → t' = z - 1) → GLJ kd wr nm z gA gM wd lv' stkF fa' B (KA uA) (KM uM) S) →
    GLJ kd wr nm z gA gM wd true stkF fa B (bn2 (rA (Int32.ofNat ty) wA) fun _ w => KA w) (be (rM (Int32.ofNat ty) wM) fun _ w => KM w) S
theorem bn2_bn1 {β δ : Type} (a : Option Wd) (K : Int32 → Wd → Option δ) : bn2 (bn a fun w2 => some ((0 : Int32), w2)) K = bn a fun w => K 0 w := by
  cases a <;> rfl
theorem bn2_bn3 {δ : Type} (a : Option (Int32 × Wd)) (K : Int32 → Wd → Option δ) : bn2 (bn2 a fun _ w2 => some ((0 : Int32), w2)) K = bn2 a fun _ w => K 0 w := by
  rcases a with _ | ⟨x, w⟩ <;> rfl
theorem be_m1 (a : Option (Option Int32 × Wd)) (K : Int32 → Wd → Option (Option α × Wd)) : be (be a fun _ w6 => some (some (-1), w6)) K = be a fun _ w => K (-1) w := by
  rw [be_be]
  rfl
/-- the class behind a type, of what isn't own -/
theorem a_33 {rc : TX4_block} {base ty : Nat} {w : Wd} {KA : Int32 → Wd → Option γ} (h : IN1 kd wr z w t base fa) (hty : ty ≤ 2) : bn2 (fX4_declaration_33 rc (Int32.ofNat d) false (Int32.ofNat ty) w) KA = if kd t = 2 then bn (fX4_variables (Int32.ofNat ty) false w) (fun w => KA 0 w) else if kd t = 10 then bn2 (rc 3 (Int32.ofNat d) (Int32.ofNat ty) 0 w) (fun _ w => KA 0 w) else if kd t = 13 ∧ ty = 0 then bn (fX4_aims (Int32.ofNat d) w) (fun w => KA 0 w) else bn (fX4_arrays (Int32.ofNat d) (Int32.ofNat (if ty = 0 then 1 else ty)) w) (fun w => KA 0 w) := by
  have hk50 := h.k50 t
  have hq : ∀ k : Nat, k ≤ 50 → ((Int32.ofNat (kd t) = Int32.ofNat k) ↔ kd t = k) := fun k hk => eq_iN (by omega) (by omega)
  have h102 : bn2 (fX4_declaration_102 rc (Int32.ofNat d) (Int32.ofNat ty) w) KA = bn (fX4_arrays (Int32.ofNat d) (Int32.ofNat (if ty = 0 then 1 else ty)) w) (fun w => KA 0 w) := by
    unfold fX4_declaration_102
    by_cases q0 : ty = 0
    · rw [q0, if_pos (show Int32.ofNat 0 = 0 from rfl), if_pos rfl, bn2_bn1 (β := Unit)]
      rfl
    · rw [if_neg (show ¬ (Int32.ofNat ty = 0) from fun e => q0 ((eq_iN (a := ty) (b := 0) (by omega) (by omega)).mp e)), if_neg q0, bn2_bn1 (β := Unit)]
  unfold fX4_declaration_33
  rw [if_neg (by decide), ltq, a_kind h.1]
  by_cases q2 : kd t = 2
  · rw [if_pos q2, if_pos (show Int32.ofNat (kd t) = 2 by rw [q2]; rfl), bn2_bn1 (β := Unit)]
  · rw [if_neg q2, if_neg (show ¬ (Int32.ofNat (kd t) = 2) from fun e => q2 ((hq 2 (by omega)).mp e)), ltq]
    by_cases q10 : kd t = 10
    · rw [if_pos q10, if_pos (show Int32.ofNat (kd t) = 10 by rw [q10]; rfl), bn2_bn3]
    · rw [if_neg q10, if_neg (show ¬ (Int32.ofNat (kd t) = 10) from fun e => q10 ((hq 10 (by omega)).mp e)), ltq]
      by_cases q13 : kd t = 13
      · rw [if_pos (show Int32.ofNat (kd t) = 13 by rw [q13]; rfl)]
        by_cases q0 : ty = 0
        · rw [if_pos (show Int32.ofNat ty = 0 by rw [q0]; rfl), if_pos (show kd t = 13 ∧ ty = 0 from ⟨q13, q0⟩), bn2_bn1 (β := Unit)]
        · rw [if_neg (show ¬ (Int32.ofNat ty = 0) from fun e => q0 ((eq_iN (a := ty) (b := 0) (by omega) (by omega)).mp e)), if_neg (show ¬ (kd t = 13 ∧ ty = 0) from fun hh => q0 hh.2)]
          exact h102
      · rw [if_neg (show ¬ (Int32.ofNat (kd t) = 13) from fun e => q13 ((hq 13 (by omega)).mp e)), if_neg (show ¬ (kd t = 13 ∧ ty = 0) from fun hh => q13 hh.1)]
        exact h102
/-- the reference behind a type -/
theorem m_58 {rm : TX12_block} {ty : Nat} {a1 : Int32} {KM : Int32 → Wd → Option (Option α × Wd)} (h : SM kd wr m wM t d) (hd40 : d ≤ 40) (hty : ty ≤ 2) : be (fX12_declaration_58 rm a1 false (Int32.ofNat ty) wM) KM = if kd t = 9 then (be (fX12_expect 261 wM) fun _ w2 => be (oX12_arrays_11 FU (Int32.ofNat (if ty = 0 then 1 else ty)) a1 (gi w2 0 42) w2) KM) else if kd t = 10 then (be (rm 2 (Int32.ofNat ty) 0 0 wM) fun _ w => KM (-1) w) else be (oX12_declaration_108 rm FU false (Int32.ofNat ty) wM) KM := by
  have harr : ∀ a : Int32, kd t = 9 → be (be (fX12_arrays a a1 wM) fun x6 w7 => some (some x6, w7)) KM = be (fX12_expect 261 wM) fun _ w2 => be (oX12_arrays_11 FU a a1 (gi w2 0 42) w2) KM := fun a q9 => by
    unfold fX12_arrays
    generalize FU = N
    rw [m_id, be_be, m_taken h hd40 (by omega), m_expect (x := 261) (k := 9) h hd40 rfl (by omega) q9]
    rfl
  unfold fX12_declaration_58
  rw [if_neg (by decide), m_kq h]
  have h50 := h.1.2.2.2.1
  by_cases q9 : kd t = 9
  · rw [if_pos q9, if_pos ((kq h50 (k := 9) (x := 261) rfl (by omega)).mpr q9)]
    by_cases q0 : ty = 0
    · rw [q0, if_pos (show Int32.ofNat 0 = 0 from rfl), if_pos rfl]
      exact harr 1 q9
    · rw [if_neg (show ¬ (Int32.ofNat ty = 0) from fun e => q0 ((eq_iN (a := ty) (b := 0) (by omega) (by omega)).mp e)), if_neg q0]
      exact harr _ q9
  · rw [if_neg q9, if_neg (fun e => q9 ((kq h50 (k := 9) (x := 261) rfl (by omega)).mp e))]
    unfold fX12_declaration_87
    rw [if_neg (by decide), m_kq h]
    by_cases q10 : kd t = 10
    · rw [if_pos q10, if_pos ((kq h50 (k := 10) (x := 262) rfl (by omega)).mpr q10), be_m1]
    · rw [if_neg q10, if_neg (fun e => q10 ((kq h50 (k := 10) (x := 262) rfl (by omega)).mp e))]
end JT
