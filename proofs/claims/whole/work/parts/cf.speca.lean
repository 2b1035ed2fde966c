/-! BOTH SIDES: all SPECS of a procedure -/
section JT
variable {kd wr nm : Nat → Nat} {vv : Nat → Int64} {m z : Nat} {gA gM : Wd} {lv : Bool} {sl us B : Nat} {stk obl stkF : List Nat} {prs : PRL} {C TK : Nat → Nat} {SL : Nat → List Nat} {t d b : Nat} {fa : Int32} {wA wM : Wd} {γ α : Type} {wd : γ → Wd} {S : γ → α → Wd → Prop} {P : (Nat → Nat) → Nat → Wd → Wd → Prop}
theorem bn_lt2 {α δ : Type} (p : α × Wd) (f : α → Wd → Option Wd) (K : Wd → Option δ) : bn (lt2 p f) K = lt2 p (fun x w => bn (f x w) K) := rfl
theorem a_spn {N : Nat} {a1 a2 a3 : Int32} {w : Wd} {K : Wd → Option γ} : bn (oX4_spec_99 (N + 1) a1 a2 a3 0 w) K = bn (fX4_spec_124 (oX4_spec_99 N) a1 a2 a3 (Int32.ofNat 0) w) K := by
  show bn (fX4_spec_99 (oX4_spec_99 N) a1 a2 a3 0 w) K = _
  unfold fX4_spec_99
  rw [if_neg (by decide), if_pos rfl]
  rfl
/-- the exit of a SPEC's NAMES -/
def SPX (kd wr nm : Nat → Nat) (vv : Nat → Int64) (m z : Nat) (gA gM : Wd) (C TK : Nat → Nat) (SL : Nat → List Nat) (stk : List Nat) (d b B : Nat) {γ α : Type} (wd : γ → Wd) (S : γ → α → Wd → Prop) (stkF : List Nat) (pn q : Nat) (prs1 : PRL) (c1 tb : Nat) (L : List Nat) (I : Nat → Wd → Wd → Prop) (KA : Wd → Option γ) (KM : Wd → Option (Option α × Wd)) : Prop :=
  ∀ lv' t' fa' uA uM L', STJ kd wr nm vv m z gA gM lv' 0 c1 stk ((pn, 6, q) :: prs1) C TK SL t' d b fa' uA uM → (lv' = true → tb < t' ∧ t' ≤ m ∧ L' = L ∧ I t' uA uM) → (lv' = false → t' = z - 1) → GLJ kd wr nm z gA gM wd lv' stkF fa' B (KA (pnd wr L' uA)) (be (fX12_expect 59 uM) fun _ w6 => KM w6) S
theorem J.spn (hT : TOKS kd wr nm vv m z gA gM) {c1 pn p sp sf l ty0 tok nf v0 nv q t0 ty ks tb : Nat} {L : List Nat} {prs1 prs0 : PRL} {stk0 : List Nat} {C0 : Nat → Nat} {wA0 wM0 : Wd} {KA : Wd → Option γ} {KM : Wd → Option (Option α × Wd)} (hty : ty ≤ 2) (hks : (1 ≤ ks ∧ ks ≤ 5) ∧ (ks = 1 ∨ ks = 2 → ty ≠ 0) ∧ (ks = 5 → ty = 0)) (hb : 2800 ≤ b) (hlen : prs1.length = l + 1) (hc01 : C0 1 ≤ c1)
    (hPF : STBJ stk ((pn, 6, q) :: prs1) obl (PF C0 t0 stk0 prs0 obl wA0 wM0))
    (HX : SPX kd wr nm vv m z gA gM C TK SL stk d b B wd S stkF pn q prs1 c1 tb L (SPI kd nm TK c1 pn p sp sf l ty0 tok nf v0 nv C0 t0 stk0 obl prs0 wA0 wM0 C) KA KM)
    (hst : STJ kd wr nm vv m z gA gM true 0 c1 stk ((pn, 6, q) :: prs1) C TK SL t d b fa wA wM) (hd : d ≤ 40) (htb : tb ≤ t) (hI : SPI kd nm TK c1 pn p sp sf l ty0 tok nf v0 nv C0 t0 stk0 obl prs0 wA0 wM0 C t wA wM) :
    GLJ kd wr nm z gA gM wd true stkF fa B (bn (oX4_spec_99 FU (Int32.ofNat (c1 + 1)) (Int32.ofNat ty) (Int32.ofNat ks) 0 (pnd wr L wA)) KA) (be (oX12_spec_110 FU (Int32.ofNat (c1 + 1 + nf)) (Int32.ofNat ty) (Int32.ofNat ks) wM) fun _ w => KM w) S := by
  obtain ⟨n9, hn9⟩ : ∃ n, n = 9000 := ⟨_, rfl⟩
  obtain ⟨fo, hfo⟩ := FU_ge (k := 9002) (by omega)
  obtain ⟨N, hN⟩ : ∃ N, N = FU := ⟨_, rfl⟩
  rw [← hN] at hfo ⊢
  rw [show N = (fo + n9 + 1) + 1 by omega, a_spn]
  have e33 : ∀ w, oX12_spec_110 ((fo + n9 + 1) + 1) (Int32.ofNat (c1 + 1 + nf)) (Int32.ofNat ty) (Int32.ofNat ks) w = fX12_spec_110 (oX12_spec_110 ((fo + 1) + n9)) (Int32.ofNat (c1 + 1 + nf)) (Int32.ofNat ty) (Int32.ofNat ks) w := fun w => by
    rw [show (fo + n9 + 1) + 1 = ((fo + 1) + n9) + 1 by omega]
    rfl
  rw [e33]
  exact sps_loop (lv := true) (L := L) (tb := tb) (p := p) (ty0 := ty0) (tok := tok) (v0 := v0) (nv := nv) (C0 := C0) (t0 := t0) (stk0 := stk0) (prs0 := prs0) (wA0 := wA0) (wM0 := wM0) (obl := obl) hT hty hks hb hlen hc01 hPF (fun lv' t' fa' uA uM L' h1 h2 h3 => HX lv' t' fa' uA uM L' h1 (fun h => (h2 h).2) h3) (fo := fo) (fm := fo + 1) n9 true t fa wA wM 0 L (by have := hst.in1.z9; omega) (by have := hI.2.2.2.2.1; omega) hst (fun _ => ⟨rfl, hd, htb, rfl, hI⟩) (fun h => absurd h (by decide))
theorem J.sp14 (hT : TOKS kd wr nm vv m z gA gM) {c1 pn p sp sf l ty0 tok nf v0 nv q t0 ty tb : Nat} {L : List Nat} {prs1 prs0 : PRL} {stk0 : List Nat} {C0 : Nat → Nat} {wA0 wM0 : Wd} {KA : Wd → Option γ} {KM : Wd → Option (Option α × Wd)} (hty : ty ≤ 2) {b0 : Bool} (hb0 : ty ≠ 0 → b0 = true) (hb : 2800 ≤ b) (hlen : prs1.length = l + 1) (hc01 : C0 1 ≤ c1)
    (hPF : STBJ stk ((pn, 6, q) :: prs1) obl (PF C0 t0 stk0 prs0 obl wA0 wM0))
    (HX : SPX kd wr nm vv m z gA gM C TK SL stk d b B wd S stkF pn q prs1 c1 tb L (SPI kd nm TK c1 pn p sp sf l ty0 tok nf v0 nv C0 t0 stk0 obl prs0 wA0 wM0 C) KA KM)
    (hst : STJ kd wr nm vv m z gA gM true 0 c1 stk ((pn, 6, q) :: prs1) C TK SL t d b fa wA wM) (hd : d ≤ 40) (htb : tb ≤ t) (hI : SPI kd nm TK c1 pn p sp sf l ty0 tok nf v0 nv C0 t0 stk0 obl prs0 wA0 wM0 C t wA wM) (h0 : ty = 0 → kd t = 9 ∨ kd t = 10 ∨ kd t = 12 ∨ kd t = 13) :
    GLJ kd wr nm z gA gM wd true stkF fa B (bn (fX4_spec_14 b0 (Int32.ofNat (c1 + 1)) (Int32.ofNat ty) (pnd wr L wA)) KA) (be (fX12_spec_24 (Int32.ofNat (c1 + 1 + nf)) (Int32.ofNat ty) true wM) fun _ w => KM w) S := by
  have hJ := (hst.jl rfl).2
  have h50 := hJ.2.1.1.2.2.2.1
  have hin : IN1 kd wr z (pnd wr L wA) t 0 fa := hst.in1.off pnd_off (fun k j hk => by omega)
  have hP : STBJ stk ((pn, 6, q) :: prs1) obl (fun C' t' a c => PF C0 t0 stk0 prs0 obl wA0 wM0 C' t' a c ∧ PF C t stk ((pn, 6, q) :: prs1) obl wA wM C' t' a c) := STBJ.and hPF PF.st0
  have h95 : ∀ (x : Int32) (ty' k : Nat), k ≠ 1 → k ≤ 5 → ∀ c, kd t = c → 2 ≤ c → x = Int32.ofNat (kM c) → c ≤ 50 → (be (fX12_spec_95 (Int32.ofNat (c1 + 1 + nf)) (Int32.ofNat ty') (Int32.ofNat k) wM) fun _ w => KM w) = be (fX12_expect x wM) fun _ w3 => be (oX12_spec_110 FU (Int32.ofNat (c1 + 1 + nf)) (Int32.ofNat ty') (Int32.ofNat k) w3) fun _ w => KM w := fun x ty' k hk hk5 c hc hc2 hx hc5 => by
    unfold fX12_spec_95
    generalize FU = N
    rw [if_neg (show ¬ (Int32.ofNat (k) = 1) from of_ne (n := k) (k := 1) (by omega) (by omega) hk), be_be, m_taken hJ.2.1 hd (by omega), m_expect hJ.2.1 hd hx hc2 hc]
  have hgo : ∀ (ty' k : Nat), ty' ≤ 2 → (1 ≤ k ∧ k ≤ 5) ∧ (k = 1 ∨ k = 2 → ty' ≠ 0) ∧ (k = 5 → ty' = 0) → ∀ (c : Nat) (x : Int32), kd t = c → 2 ≤ c ∧ c ≤ 50 → x = Int32.ofNat (kM c) → GLJ kd wr nm z gA gM wd true stkF fa B (lt (fX9_need (Int32.ofNat c) (pnd wr L wA)) fun w2 => bn (oX4_spec_99 FU (Int32.ofNat (c1 + 1)) (Int32.ofNat ty') (Int32.ofNat k) 0 w2) KA) (be (fX12_expect x wM) fun _ w3 => be (oX12_spec_110 FU (Int32.ofNat (c1 + 1 + nf)) (Int32.ofNat ty') (Int32.ofNat k) w3) fun _ w => KM w) S := fun ty' k hty' hk c x hc hc2 hx =>
    J.okP (P := fun C' t' a c => PF C0 t0 stk0 prs0 obl wA0 wM0 C' t' a c ∧ PF C t stk ((pn, 6, q) :: prs1) obl wA wM C' t' a c) hT hP hst ⟨hI.2.1, STEP.rf⟩ hc2 hd (by omega) hc hx (fun uA uM h1 h2 h3 h4 => J.spn (tb := tb) hT hty' hk hb hlen hc01 hPF HX h1 hd (by omega) (hI.step h3.1 h3.2))
  unfold fX4_spec_14 fX12_spec_24
  rw [bn_lt2, m_kq hJ.2.1, show (9 : Int32) = Int32.ofNat 9 from rfl]
  have hty0 : (Int32.ofNat ty = 0) ↔ ty = 0 := eq_iN (a := ty) (b := 0) (by omega) (by omega)
  by_cases q9 : kd t = 9
  · rw [take_need hin.1 (by omega) q9, if_pos ((kq h50 (k := 9) (x := 261) rfl (by omega)).mpr q9)]
    by_cases q0 : ty = 0
    · rw [if_pos (hty0.mpr q0), show (1 : Int32) = Int32.ofNat 1 from rfl, show (2 : Int32) = Int32.ofNat 2 from rfl, h95 261 1 2 (by omega) (by omega) 9 q9 (by omega) rfl (by omega)]
      have h := hgo 1 2 (by omega) (by omega) 9 261 q9 (by omega) rfl
      have e : ∀ (A B D : Wd → Option Wd), (fun w2 => bn (if true = true then (if Int32.ofNat ty = 0 then A w2 else B w2) else D w2) KA) = fun w2 => bn (A w2) KA := fun A B D => by
        funext w2
        rw [if_pos rfl, if_pos (hty0.mpr q0)]
      rw [e]
      exact h
    · rw [if_neg (fun e => q0 (hty0.mp e)), show (2 : Int32) = Int32.ofNat 2 from rfl, h95 261 ty 2 (by omega) (by omega) 9 q9 (by omega) rfl (by omega)]
      have h := hgo ty 2 hty (by omega) 9 261 q9 (by omega) rfl
      have e : ∀ (A B D : Wd → Option Wd), (fun w2 => bn (if true = true then (if Int32.ofNat ty = 0 then A w2 else B w2) else D w2) KA) = fun w2 => bn (B w2) KA := fun A B D => by
        funext w2
        rw [if_pos rfl, if_neg (fun e => q0 (hty0.mp e))]
      rw [e]
      exact h
  rw [a_take_no hin.1 (by omega) q9, lt2q, if_neg (show ¬ (false = true) by decide), if_neg (fun e => q9 ((kq h50 (k := 9) (x := 261) rfl (by omega)).mp e)), bn_lt2, m_kq hJ.2.1, show (10 : Int32) = Int32.ofNat 10 from rfl]
  by_cases q10 : kd t = 10
  · rw [take_need hin.1 (by omega) q10, if_pos ((kq h50 (k := 10) (x := 262) rfl (by omega)).mpr q10), show (3 : Int32) = Int32.ofNat 3 from rfl, h95 262 ty 3 (by omega) (by omega) 10 q10 (by omega) rfl (by omega)]
    have := hgo ty 3 hty (by omega) 10 262 q10 (by omega) rfl
    have e : ∀ (A B : Wd → Option Wd), (fun w2 => bn (if true = true then A w2 else B w2) KA) = fun w2 => bn (A w2) KA := fun A B => by
      funext w2
      rw [if_pos rfl]
    rw [e]
    exact this
  rw [a_take_no hin.1 (by omega) q10, lt2q, if_neg (show ¬ (false = true) by decide), if_neg (fun e => q10 ((kq h50 (k := 10) (x := 262) rfl (by omega)).mp e)), m_kq hJ.2.1]
  by_cases q0 : ty = 0
  · have hk := h0 q0
    rw [if_pos (hty0.mpr q0), ltq, a_kind hin.1]
    by_cases q12 : kd t = 12
    · rw [if_pos (show Int32.ofNat (kd t) = 12 by rw [q12]; rfl), if_pos ((kq h50 (k := 12) (x := 264) rfl (by omega)).mpr q12), if_pos (hty0.mpr q0), show (4 : Int32) = Int32.ofNat 4 from rfl, h95 264 ty 4 (by omega) (by omega) 12 q12 (by omega) rfl (by omega)]
      have e : bn (fX4_spec_80 (Int32.ofNat 4) (Int32.ofNat (c1 + 1)) (Int32.ofNat ty) (pnd wr L wA)) KA = lt (fX9_need (Int32.ofNat 12) (pnd wr L wA)) fun w2 => bn (oX4_spec_99 FU (Int32.ofNat (c1 + 1)) (Int32.ofNat ty) (Int32.ofNat 4) 0 w2) KA := by
        unfold fX4_spec_80
        generalize FU = N
        rw [ltq, a_kind hin.1, q12, bn_lt2, take_need hin.1 (by omega) q12]
      rw [e]
      exact hgo ty 4 hty (by omega) 12 264 q12 (by omega) rfl
    · have q13 : kd t = 13 := by omega
      rw [if_neg (show ¬ (Int32.ofNat (kd t) = 12) from of_ne (n := kd t) (k := 12) (by omega) (by omega) q12), if_neg (fun e => q12 ((kq h50 (k := 12) (x := 264) rfl (by omega)).mp e))]
      unfold fX12_spec_79
      rw [m_kq hJ.2.1, if_pos ((kq h50 (k := 13) (x := 265) rfl (by omega)).mpr q13), if_pos (hty0.mpr q0), show (5 : Int32) = Int32.ofNat 5 from rfl, h95 265 ty 5 (by omega) (by omega) 13 q13 (by omega) rfl (by omega)]
      have e : bn (fX4_spec_80 (Int32.ofNat 5) (Int32.ofNat (c1 + 1)) (Int32.ofNat ty) (pnd wr L wA)) KA = lt (fX9_need (Int32.ofNat 13) (pnd wr L wA)) fun w2 => bn (oX4_spec_99 FU (Int32.ofNat (c1 + 1)) (Int32.ofNat ty) (Int32.ofNat 5) 0 w2) KA := by
        unfold fX4_spec_80
        generalize FU = N
        rw [ltq, a_kind hin.1, q13, bn_lt2, take_need hin.1 (by omega) q13]
      rw [e]
      exact hgo ty 5 hty (by omega) 13 265 q13 (by omega) rfl
  · have hb1 : b2i b0 = Int32.ofNat 1 := by rw [hb0 q0]; rfl
    have h1 : (be (fX12_spec_95 (Int32.ofNat (c1 + 1 + nf)) (Int32.ofNat ty) (b2i true) wM) fun _ w => KM w) = be (oX12_spec_110 FU (Int32.ofNat (c1 + 1 + nf)) (Int32.ofNat ty) (Int32.ofNat 1) wM) fun _ w => KM w := by
      unfold fX12_spec_95
      rw [if_pos (show b2i true = 1 from rfl)]
      rfl
    have h79 : fX12_spec_79 (Int32.ofNat (c1 + 1 + nf)) (Int32.ofNat ty) true wM = fX12_spec_95 (Int32.ofNat (c1 + 1 + nf)) (Int32.ofNat ty) (b2i true) wM := by
      unfold fX12_spec_79
      rw [m_kq hJ.2.1, if_neg (fun e => q0 (hty0.mp e))]
      by_cases q13 : Int32.ofNat (kM (kd t)) = 265
      · rw [if_pos q13]
      · rw [if_neg q13]
    have h24 : (if Int32.ofNat (kM (kd t)) = 264 then (if Int32.ofNat ty = 0 then fX12_spec_95 (Int32.ofNat (c1 + 1 + nf)) (Int32.ofNat ty) 4 wM else fX12_spec_79 (Int32.ofNat (c1 + 1 + nf)) (Int32.ofNat ty) true wM) else fX12_spec_79 (Int32.ofNat (c1 + 1 + nf)) (Int32.ofNat ty) true wM) = fX12_spec_95 (Int32.ofNat (c1 + 1 + nf)) (Int32.ofNat ty) (b2i true) wM := by
      by_cases q12 : Int32.ofNat (kM (kd t)) = 264
      · rw [if_pos q12, if_neg (fun e => q0 (hty0.mp e)), h79]
      · rw [if_neg q12, h79]
    rw [if_neg (fun e => q0 (hty0.mp e)), hb1, h24, h1]
    exact J.spn (tb := tb) hT hty (by omega) hb hlen hc01 hPF HX hst hd htb hI
abbrev isS (k : Nat) : Prop := k = 7 ∨ k = 8 ∨ k = 9 ∨ k = 10 ∨ k = 12 ∨ k = 13
theorem a_isS {base : Nat} {w : Wd} (h : IN1 kd wr z w t base fa) : fX4_isSpec w = decide (isS (kd t)) := by
  have h50 := h.1.2.2.1 t
  have e : ∀ k : Nat, k ≤ 50 → (Int32.ofNat (kd t) = Int32.ofNat k ↔ kd t = k) := fun k hk => eq_iN (by omega) (by omega)
  unfold fX4_isSpec
  rw [ltq, a_kind h.1, a_isD h]
  by_cases q12 : kd t = 12
  · rw [if_pos (show Int32.ofNat (kd t) = 12 from (e 12 (by omega)).mpr q12), decide_eq_true (show isS (kd t) by unfold isS; omega)]
  · rw [if_neg (show ¬ Int32.ofNat (kd t) = 12 from fun h => q12 ((e 12 (by omega)).mp h)), ltq]
    by_cases qD : isD (kd t)
    · rw [decide_eq_true qD, if_pos rfl]
      by_cases q6 : kd t = 6
      · rw [if_pos (show Int32.ofNat (kd t) = 6 from (e 6 (by omega)).mpr q6), decide_eq_false (show ¬ isS (kd t) by unfold isS; omega)]
      · rw [if_neg (show ¬ Int32.ofNat (kd t) = 6 from fun h => q6 ((e 6 (by omega)).mp h)), decide_eq_true (show isS (kd t) by unfold isS; unfold isD at qD; omega)]
    · rw [decide_eq_false qD, if_neg (by decide), decide_eq_false (show ¬ isS (kd t) by unfold isS; unfold isD at qD; omega)]
/-- one SPEC -/
theorem J.spec (hT : TOKS kd wr nm vv m z gA gM) {c1 pn p sp sf l ty0 tok nf v0 nv q t0 tb : Nat} {L : List Nat} {prs1 prs0 : PRL} {stk0 : List Nat} {C0 : Nat → Nat} {wA0 wM0 : Wd} {KA : Wd → Option γ} {KM : Wd → Option (Option α × Wd)} (hb : 2800 ≤ b) (hlen : prs1.length = l + 1) (hc01 : C0 1 ≤ c1)
    (hPF : STBJ stk ((pn, 6, q) :: prs1) obl (PF C0 t0 stk0 prs0 obl wA0 wM0))
    (HX : SPX kd wr nm vv m z gA gM C TK SL stk d b B wd S stkF pn q prs1 c1 tb L (SPI kd nm TK c1 pn p sp sf l ty0 tok nf v0 nv C0 t0 stk0 obl prs0 wA0 wM0 C) KA KM)
    (hst : STJ kd wr nm vv m z gA gM true 0 c1 stk ((pn, 6, q) :: prs1) C TK SL t d b fa wA wM) (hd : d ≤ 40) (htb : tb ≤ t) (hI : SPI kd nm TK c1 pn p sp sf l ty0 tok nf v0 nv C0 t0 stk0 obl prs0 wA0 wM0 C t wA wM) (h0 : isS (kd t)) :
    GLJ kd wr nm z gA gM wd true stkF fa B (bn (fX4_spec (Int32.ofNat (c1 + 1)) (pnd wr L wA)) KA) (be (fX12_spec (Int32.ofNat (c1 + 1 + nf)) wM) fun _ w => KM w) S := by
  have hJ := (hst.jl rfl).2
  have hz3 := hT.2.2.2.1
  have hzm := hT.2.2.1
  have htm := hJ.2.1.lt (by unfold isS at h0; omega)
  have hin : IN1 kd wr z (pnd wr L wA) t 0 fa := hst.in1.off pnd_off (fun k j hk => by omega)
  have hP : STBJ stk ((pn, 6, q) :: prs1) obl (fun C' t' a c => PF C0 t0 stk0 prs0 obl wA0 wM0 C' t' a c ∧ PF C t stk ((pn, 6, q) :: prs1) obl wA wM C' t' a c) := STBJ.and hPF PF.st0
  have e24 : ∀ x : Int32, (be (fX12_expect x wM) fun x4 w5 => be (if inb x4 8194 = true then lt (fX12_typeOf (gi w5 2 (Int32.toNatClampNeg x4)) w5) fun x8 => fX12_spec_24 (Int32.ofNat (c1 + 1 + nf)) x8 true w5 else none) fun _ w => KM w) = be (fX12_expect x wM) fun x4 w5 => if inb x4 8194 = true then lt (fX12_typeOf (gi w5 2 (Int32.toNatClampNeg x4)) w5) fun x8 => be (fX12_spec_24 (Int32.ofNat (c1 + 1 + nf)) x8 true w5) fun _ w => KM w else none := fun x => by
    refine be_cg fun x4 w5 => ?_
    by_cases hb : inb x4 8194 = true
    · rw [if_pos hb, if_pos hb, ltq, ltq]
    · rw [if_neg hb, if_neg hb]
      rfl
  unfold fX4_spec fX12_spec
  rw [bn_lt2, a_type hin, m_isType hJ.2.1, bn2_so]
  by_cases q7 : kd t = 7
  · rw [if_pos q7, decide_eq_true (show kd t = 7 ∨ kd t = 8 from Or.inl q7), if_pos rfl, be_be, m_taken hJ.2.1 hd (by omega), ← m_expect (x := 259) (k := 7) hJ.2.1 hd rfl (by omega) q7, e24]
    refine J.okP (c := 7) (P := fun C' t' a c => PF C0 t0 stk0 prs0 obl wA0 wM0 C' t' a c ∧ PF C t stk ((pn, 6, q) :: prs1) obl wA wM C' t' a c) hT hP hst ⟨hI.2.1, STEP.rf⟩ (by omega) hd (by omega) q7 rfl (fun uA uM h1 h2 h3 h4 => ?_)
    rw [if_pos (inb_iN (by omega) (by omega)), tc_iN (by omega), h4, ltq, if_neg (show ¬ ((1 : Int32) = 0) by decide)]
    exact J.sp14 (ty := 1) (tb := tb) hT (by omega) (fun _ => rfl) hb hlen hc01 hPF HX h1 hd (by omega) (hI.step h3.1 h3.2) (fun h => absurd h (by decide))
  rw [if_neg q7]
  by_cases q8 : kd t = 8
  · rw [if_pos q8, decide_eq_true (show kd t = 7 ∨ kd t = 8 from Or.inr q8), if_pos rfl, be_be, m_taken hJ.2.1 hd (by omega), ← m_expect (x := 260) (k := 8) hJ.2.1 hd rfl (by omega) q8, e24]
    refine J.okP (c := 8) (P := fun C' t' a c => PF C0 t0 stk0 prs0 obl wA0 wM0 C' t' a c ∧ PF C t stk ((pn, 6, q) :: prs1) obl wA wM C' t' a c) hT hP hst ⟨hI.2.1, STEP.rf⟩ (by omega) hd (by omega) q8 rfl (fun uA uM h1 h2 h3 h4 => ?_)
    rw [if_pos (inb_iN (by omega) (by omega)), tc_iN (by omega), h4, ltq, if_neg (show ¬ ((2 : Int32) = 0) by decide)]
    exact J.sp14 (ty := 2) (tb := tb) hT (by omega) (fun _ => rfl) hb hlen hc01 hPF HX h1 hd (by omega) (hI.step h3.1 h3.2) (fun h => absurd h (by decide))
  rw [if_neg q8, if_pos rfl, decide_eq_false (show ¬ (kd t = 7 ∨ kd t = 8) by omega), if_neg (show ¬ (false = true) by decide)]
  exact J.sp14 (ty := 0) (tb := tb) hT (by omega) (fun h => absurd rfl h) hb hlen hc01 hPF HX hst hd htb hI (fun _ => by unfold isS at h0; omega)
theorem a_h110 {n c base : Nat} {a2 a5 a6 : Int32} {w : Wd} {K : Wd → Option γ} (h : IN1 kd wr z w t base fa) (hc : c ≤ 8192) : bn (oX4_heading_110 (n + 1) a2 a5 a6 (Int32.ofNat c) w) K = if isS (kd t) then (bn (fX4_spec a2 w) fun w4 => lt (fX9_need (Int32.ofNat 41) w4) fun w5 => bn (oX4_heading_110 n a2 a5 a6 (Int32.ofNat (c + 1)) w5) K) else bn (oX4_heading_148 FU a2 a5 a6 0 w) K := by
  show bn (fX4_heading_110 (oX4_heading_110 n) a2 a5 a6 (Int32.ofNat c) w) K = _
  unfold fX4_heading_110
  rw [if_neg (show ¬ ((8193 : Int32) ≤ Int32.ofNat c) from nle_iN (a := 8193) (by omega) (by omega)), a_isS h, ltq]
  by_cases q : isS (kd t)
  · rw [decide_eq_true q, if_pos rfl, if_pos q, ← ad1_iN c, bn_bn]
    rfl
  · rw [decide_eq_false q, if_neg (by decide), if_neg q]
theorem a_h110d {n c base : Nat} {a2 a5 a6 : Int32} {w : Wd} {K : Wd → Option γ} (h : IN1 kd wr z w t base fa) (hk : kd t = 0) (hc : c ≤ 9000) : bn (oX4_heading_110 (n + 1) a2 a5 a6 (Int32.ofNat c) w) K = bn (oX4_heading_148 FU a2 a5 a6 0 w) K := by
  by_cases q : c ≤ 8192
  · rw [a_h110 h q, if_neg (show ¬ isS (kd t) by unfold isS; omega)]
  · show bn (fX4_heading_110 (oX4_heading_110 n) a2 a5 a6 (Int32.ofNat c) w) K = _
    unfold fX4_heading_110
    rw [if_pos (show (8193 : Int32) ≤ Int32.ofNat c from ofle (x := 8193) (by omega) (by omega))]
theorem m_354 {rc : TX12_block} {n : Nat} {a4 a5 a6 a7 a8 : Int32} {w : Wd} {K : Int32 → Wd → Option (Option α × Wd)} (h : SM kd wr m w t d) : be (oX12_procedure_354 rc (n + 1) a4 a5 a6 a7 a8 w) K = if isS (kd t) then (be (fX12_spec a6 w) fun _ w5 => be (oX12_procedure_354 rc n a4 a5 a6 a7 a8 w5) K) else be (oX12_procedure_414 rc FU a4 a5 a6 a8 a7 w) K := by
  have h50 := h.1.2.2.2.1
  show be (fX12_procedure_354 rc (oX12_procedure_354 rc n) a4 a5 a6 a7 a8 w) K = _
  unfold fX12_procedure_354
  generalize FU = N
  rw [m_isType h, bn2_so]
  by_cases q : kd t = 7 ∨ kd t = 8
  · rw [decide_eq_true q, if_pos rfl, if_pos (show isS (kd t) by unfold isS; omega), be_be]
  · rw [decide_eq_false q, if_neg (show ¬ (false = true) by decide), m_kq h]
    by_cases q9 : kd t = 9
    · rw [if_pos ((kq h50 (k := 9) (x := 261) rfl (by omega)).mpr q9), if_pos (show isS (kd t) by unfold isS; omega), be_be]
    · rw [if_neg (fun e => q9 ((kq h50 (k := 9) (x := 261) rfl (by omega)).mp e)), m_kq h]
      by_cases q10 : kd t = 10
      · rw [if_pos ((kq h50 (k := 10) (x := 262) rfl (by omega)).mpr q10), if_pos (show isS (kd t) by unfold isS; omega), be_be]
      · rw [if_neg (fun e => q10 ((kq h50 (k := 10) (x := 262) rfl (by omega)).mp e)), m_kq h]
        by_cases q12 : kd t = 12
        · rw [if_pos ((kq h50 (k := 12) (x := 264) rfl (by omega)).mpr q12), if_pos (show isS (kd t) by unfold isS; omega), be_be]
        · rw [if_neg (fun e => q12 ((kq h50 (k := 12) (x := 264) rfl (by omega)).mp e)), m_kq h]
          by_cases q13 : kd t = 13
          · rw [if_pos ((kq h50 (k := 13) (x := 265) rfl (by omega)).mpr q13), if_pos (show isS (kd t) by unfold isS; omega), be_be]
          · rw [if_neg (fun e => q13 ((kq h50 (k := 13) (x := 265) rfl (by omega)).mp e)), if_neg (show ¬ isS (kd t) by unfold isS; omega)]
theorem hds_loop (hT : TOKS kd wr nm vv m z gA gM) {c1 pn p sp sf l ty0 tok nf v0 nv q t0 tl : Nat} {L : List Nat} {prs1 prs0 : PRL} {stk0 : List Nat} {C0 : Nat → Nat} {wA0 wM0 : Wd} {KA : Wd → Option γ} {KM : Int32 → Wd → Option (Option α × Wd)} {rc : TX12_block} {a2 a5 a6 b4 b5 b7 b8 : Int32} (ha2 : lv = true → a2 = Int32.ofNat (c1 + 1)) (hb : 2800 ≤ b) (hlen : prs1.length = l + 1) (hc01 : C0 1 ≤ c1)
    (hPF : STBJ stk ((pn, 6, q) :: prs1) obl (PF C0 t0 stk0 prs0 obl wA0 wM0))
    (HX : ∀ lv' t' fa' uA uM L', STJ kd wr nm vv m z gA gM lv' 0 c1 stk ((pn, 6, q) :: prs1) C TK SL t' d b fa' uA uM → (lv' = true → lv = true ∧ tl ≤ t' ∧ t' ≤ m ∧ L' = L ∧ SPI kd nm TK c1 pn p sp sf l ty0 tok nf v0 nv C0 t0 stk0 obl prs0 wA0 wM0 C t' uA uM) → (lv' = false → t' = z - 1) → GLJ kd wr nm z gA gM wd lv' stkF fa' B (bn (oX4_heading_148 FU a2 a5 a6 0 (pnd wr L' uA)) KA) (be (oX12_procedure_414 rc FU b4 b5 (Int32.ofNat (c1 + 1 + nf)) b8 b7 uM) KM) S)
    {fo fm : Nat} : ∀ (n : Nat) (lv1 : Bool) (t : Nat) (fa : Int32) (wA wM : Wd) (j : Nat) (L' : List Nat), z ≤ t + n → j ≤ t → STJ kd wr nm vv m z gA gM lv1 0 c1 stk ((pn, 6, q) :: prs1) C TK SL t d b fa wA wM →
      (lv1 = true → lv = true ∧ d ≤ 40 ∧ tl ≤ t ∧ L' = L ∧ SPI kd nm TK c1 pn p sp sf l ty0 tok nf v0 nv C0 t0 stk0 obl prs0 wA0 wM0 C t wA wM) → (lv1 = false → t = z - 1) →
      GLJ kd wr nm z gA gM wd lv1 stkF fa B (bn (oX4_heading_110 (fo + n + 1) a2 a5 a6 (Int32.ofNat j) (pnd wr L' wA)) KA) (be (oX12_procedure_354 rc (fm + n + 1) b4 b5 (Int32.ofNat (c1 + 1 + nf)) b7 b8 wM) KM) S := by
  intro n
  induction n with
  | zero =>
    intro lv1 t fa wA wM j L' hz hj hst
    have := hst.in1.tz
    omega
  | succ n ih =>
    intro lv1 t fa wA wM j L' hz hj hst hl hdd
    have htz := hst.in1.tz
    have hz9 := hst.in1.z9
    have hin : IN1 kd wr z (pnd wr L' wA) t 0 fa := hst.in1.off pnd_off (fun k j hk => by omega)
    rw [show fo + (n + 1) + 1 = (fo + n + 1) + 1 by omega, show fm + (n + 1) + 1 = (fm + n + 1) + 1 by omega]
    cases lv1
    · have ht := hdd rfl
      have hk0 : kd t = 0 := by rw [ht]; exact hin.zk
      rw [a_h110d hin hk0 (by omega)]
      refine GLJ.ref (rM' := be (oX12_procedure_414 rc FU b4 b5 (Int32.ofNat (c1 + 1 + nf)) b8 b7 wM) KM) (fun h => absurd h (by decide)) ?_
      exact HX false t fa wA wM L' hst (fun h => absurd h (by decide)) hdd
    · obtain ⟨y0, yd, yt, y1, y2⟩ := hl rfl
      subst y1
      have ha := ha2 y0
      subst ha
      have hJ := (hst.jl rfl).2
      rw [a_h110 hin (by omega), m_354 hJ.2.1]
      by_cases qs : isS (kd t)
      · rw [if_pos qs, if_pos qs]
        refine J.spec (tb := t) (L := L') hT hb hlen hc01 hPF (fun lv2 t2 fa2 uA uM L2 h1 h2 h3 => ?_) hst yd (Nat.le_refl _) y2 qs
        refine J.needP (c := 41) (x := 59) (q0 := FNS wr L2 (FLA uA)) (P := fun C' t' a c => lv2 = true → PF C0 t0 stk0 prs0 obl wA0 wM0 C' t' a c ∧ PF C t2 stk ((pn, 6, q) :: prs1) obl uA uM C' t' a c) hT (STBJ.if fun _ => STBJ.and hPF PF.st0) h1 (fun h _ => ⟨(h2 h).2.2.2.2.1, STEP.rf⟩) (by omega) (fun _ => yd) hb (by omega) rfl (fun lv3 t3 fa3 vA vM hst3 hF hl3 hd3 => ?_)
        have ew : fl (FNS wr L2 (FLA uA)) vA = pnd wr L2 vA := by
          unfold pnd
          rw [hF]
        rw [ew]
        cases lv3
        · have ht3 := hd3 rfl
          have hin3 : IN1 kd wr z (pnd wr L2 vA) t3 0 fa3 := hst3.in1.off pnd_off (fun k j hk => by omega)
          have hk0 : kd t3 = 0 := by rw [ht3]; exact hin3.zk
          rw [a_h110d hin3 hk0 (by omega)]
          refine GLJ.ref (rM' := be (oX12_procedure_414 rc FU b4 b5 (Int32.ofNat (c1 + 1 + nf)) b8 b7 vM) KM) (fun h => absurd h (by decide)) ?_
          exact HX false t3 fa3 vA vM L2 hst3 (fun h => absurd h (by decide)) hd3
        · obtain ⟨g1, g2, g3, g4, g5⟩ := hl3 rfl
          obtain ⟨x1, x2, x3, x4⟩ := h2 g1
          subst x3
          exact ih true t3 fa3 vA vM (j + 1) L2 (by omega) (by omega) hst3 (fun _ => ⟨y0, yd, by omega, rfl, x4.step (g5 g1).1 (g5 g1).2⟩) (fun h => absurd h (by decide))
      · rw [if_neg qs, if_neg qs]
        exact HX true t fa wA wM L' hst (fun _ => ⟨y0, yt, hJ.2.1.2.1, rfl, y2⟩) (fun h => absurd h (by decide))
end JT
