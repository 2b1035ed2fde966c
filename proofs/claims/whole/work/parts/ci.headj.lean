/-! BOTH SIDES: a heading, whole -/
section JT
variable {kd wr nm : Nat → Nat} {vv : Nat → Int64} {m z : Nat} {gA gM : Wd} {lv : Bool} {sl us B : Nat} {stk obl stkF : List Nat} {prs : PRL} {C TK : Nat → Nat} {SL : Nat → List Nat} {t d b : Nat} {fa : Int32} {wA wM : Wd} {γ α : Type} {wd : γ → Wd} {S : γ → α → Wd → Prop} {P : (Nat → Nat) → Nat → Wd → Wd → Prop}
/-- a heading that is done -/
def HDZ (kd wr nm TK : Nat → Nat) (c1 pn p sp sf l ty0 tok nf o : Nat) (C : Nat → Nat) (t : Nat) (fA fM : Wd) : Prop :=
  HDW kd TK c1 pn p sp sf l ty0 tok nf t C t fA fM ∧ (∀ j, j < nf → (gi fM 28 (c1 + 1 + j) = 0 ∧ gi fA 16 (c1 + 2 + j) = 3) ∨ (gi fM 28 (c1 + 1 + j) = 1 ∧ gi fA 16 (c1 + 2 + j) = 2 ∧ gi fM 24 (c1 + 1 + j) = 1)) ∧ SLI c1 nf o fA fM ∧ gi fA 18 (c1 + 1) = Int32.ofNat o ∧ gi fA 24 (c1 + 1) = Int32.ofNat t ∧ ∀ j, j < nf → gi fM 24 (c1 + 1 + j) = 0 → FLN (FLM fM) (wr (gi fM 22 (c1 + 1 + j)).toNatClampNeg + 1)
/-- where a heading ends, on both sides -/
def HDE (kd wr nm : Nat → Nat) (vv : Nat → Int64) (m z : Nat) (gA gM : Wd) (stk obl : List Nat) (d b B : Nat) {γ α : Type} (wd : γ → Wd) (S : γ → α → Wd → Prop) (stkF : List Nat) (c1 pn p sp sf l ty0 tok : Nat) (prs1 : PRL) (Cb C0 : Nat → Nat) (t0 : Nat) (stk0 : List Nat) (prs0 : PRL) (wA0 wM0 : Wd) (rc : TX12_block) (b4 b5 : Int32) (KA : Wd → Option γ) (KM : Int32 → Wd → Option (Option α × Wd)) (Q : Nat → Nat → Prop) : Prop :=
  ∀ lv' t' fa' uA uM C' TK' SL' nf o f, STJ kd wr nm vv m z gA gM lv' 0 c1 stk ((pn, 6 + o, 1 + 2 * nf) :: prs1) C' TK' SL' t' d b fa' uA uM → (lv' = true → Q nf t' ∧ t' ≤ m ∧ KEP Cb c1 tok C' TK' ∧ HDZ kd wr nm TK' c1 pn p sp sf l ty0 tok nf o C' t' uA uM ∧ PF C0 t0 stk0 prs0 obl wA0 wM0 C' t' uA uM) → (lv' = false → t' = z - 1) → GLJ kd wr nm z gA gM wd lv' stkF fa' B (KA uA) (be (oX12_procedure_487 rc (f + 1) b4 b5 (Int32.ofNat (c1 + 1 + nf)) (Int32.ofNat (c1 + 1 + nf)) uM) KM) S
theorem J.h148 (hT : TOKS kd wr nm vv m z gA gM) {c1 pn p sp sf l ty0 tok nf v0 nv ve t0 : Nat} {L : List Nat} {prs1 prs0 : PRL} {stk0 : List Nat} {C0 Cb : Nat → Nat} {wA0 wM0 : Wd} {KA : Wd → Option γ} {KM : Int32 → Wd → Option (Option α × Wd)} {rc : TX12_block} {a2 a5 b4 b5 : Int32} {Q : Nat → Nat → Prop} (hnv : nv ≤ 9000) (hlen : prs1.length = l + 1) (hc01 : C0 1 ≤ c1)
    (HE : HDE kd wr nm vv m z gA gM stk obl d b B wd S stkF c1 pn p sp sf l ty0 tok prs1 Cb C0 t0 stk0 prs0 wA0 wM0 rc b4 b5 KA KM Q)
    (hst : STJ kd wr nm vv m z gA gM lv 0 c1 stk ((pn, 6, 1 + 2 * nf) :: prs1) C TK SL t d b fa wA wM) (hl : lv = true → a2 = Int32.ofNat (c1 + 1) ∧ (0 < nv → a5 + 1 = Int32.ofNat v0) ∧ (ve < 8194 ∧ ve ≤ v0 + 2 * nv ∧ ∀ i, i < nv → v0 + 2 * i < ve ∧ v0 + 2 * i < t ∧ kd (v0 + 2 * i) = 2) ∧ v0 + 2 * nv ≤ 9000 ∧ Q nf t ∧ KEP Cb c1 tok C TK ∧ L = pnL (mtF nm TK c1 nf) v0 nv 0 ∧ SPI kd nm TK c1 pn p sp sf l ty0 tok nf v0 nv C0 t0 stk0 obl prs0 wA0 wM0 C t wA wM) (hdd : lv = false → t = z - 1) :
    GLJ kd wr nm z gA gM wd lv stkF fa B (bn (oX4_heading_148 FU a2 a5 (Int32.ofNat nv) 0 (pnd wr L wA)) KA) (be (oX12_procedure_414 rc FU b4 b5 (Int32.ofNat (c1 + 1 + nf)) (Int32.ofNat ve) (Int32.ofNat v0) wM) KM) S := by
  cases lv
  · obtain ⟨fo, hfo⟩ := FU_ge (k := 9001) (by omega)
    obtain ⟨u, u1, u2⟩ := h148_tot (nv := nv) (fo := fo) a2 a5 (pnd wr L wA) hnv
    have e : oX4_heading_148 FU a2 a5 (Int32.ofNat nv) 0 (pnd wr L wA) = some u := by rw [hfo]; exact u1
    rw [e, bn_so]
    refine GLJ.ref (rM' := be (oX12_procedure_487 rc (0 + 1) b4 b5 (Int32.ofNat (c1 + 1 + nf)) (Int32.ofNat (c1 + 1 + nf)) wM) KM) (fun h => absurd h (by decide)) ?_
    exact HE false t fa u wM C TK SL nf 0 0 (hst.dn rfl (OFF.tr u2 (pnd_off.mono fun k j h => by unfold PAN; omega))) (fun h => absurd h (by decide)) hdd
  · obtain ⟨h1, h2, h3, h4, h5, h6, h7, h8, h9, h10⟩ := hl rfl
    subst h1
    subst h7
    have hfa := (hst.jl rfl).1
    have hJ := (hst.jl rfl).2
    have hcc := hJ.2.2.2.2.2.1
    have hwt := hT.1 t
    have hc1 := h10.1
    have htm := hJ.2.1.2.1
    obtain ⟨f1, hf1⟩ : ∃ f, FU = f + nv + 1 := FU_gt (by omega)
    obtain ⟨f2, hf2⟩ : ∃ f, FU = f + nf + 1 := FU_gt (by omega)
    obtain ⟨N, hN⟩ : ∃ N, N = FU := ⟨_, rfl⟩
    have hdw : HDW kd TK c1 pn p sp sf l ty0 tok nf t C t wA wM := ⟨h10.1, h10.2.1, h10.2.2.1, h10.2.2.2.1, h10.2.2.2.2.1, fun i hi => by
      obtain ⟨b1, b2, b3, b4', b5', b6⟩ := h10.2.2.2.2.2 i hi
      exact ⟨b1, b2, b3, b4'⟩⟩
    have hvc : VCI nm TK c1 nf v0 nv 0 wA wM := fun j hj => by
      obtain ⟨b1, b2, b3, b4', b5', b6⟩ := h10.2.2.2.2.2 j hj
      have h16 := h8 j hj
      rw [show c1 + 1 + j + 1 = c1 + 2 + j by omega] at h16 b6
      refine ⟨Or.inl ⟨b5', ?_⟩, fun k k1 k2 k3 _ => h16.mpr ⟨k, k2, k3⟩⟩
      rcases b6 with b6 | b6
      · obtain ⟨k, k1, k2⟩ := h16.mp b6
        exact Or.inr ⟨b6, k, by omega, k1, k2⟩
      · exact Or.inl b6
    have key := vck_loop (obl := obl) (q := 1 + 2 * nf) (C0 := C0) (t0 := t0) (stk0 := stk0) (prs0 := prs0) (wA0 := wA0) (wM0 := wM0) (KA := KA) (KM := KM) (rc := rc) (b4 := b4) (b5 := b5) (stkF := stkF) (B := B) (wd := wd) (S := S) (SL := SL) (d := d) (b := b) (fa := fa) hT h2 h3 h4 hlen hc01 (by omega) (fun uA uM g1 g2 g3 g4 => by
      have htop := (g1.jl rfl).2.top
      have hsl5 : fX5_slot uA = Int32.ofNat 6 := by
        unfold fX5_slot
        rw [ltq, htop.1, rgi_iN (by omega) (by omega)]
        exact htop.2.2.1
      unfold fX4_settle
      rw [ltq, hsl5, ← hN, show N = f2 + nf + 1 by omega]
      have g1' : STJ kd wr nm vv m z gA gM true 0 c1 stk ((pn, 6 + 0, 1 + 2 * nf) :: prs1) C TK SL t d b fa uA uM := g1
      refine set_loop (v0 := v0) (nv := nv) (obl := obl) (C0 := C0) (t0 := t0) (stk0 := stk0) (prs0 := prs0) (wA0 := wA0) (wM0 := wM0) (fo := f2) (fm := f2) hT hlen hc01 (by omega) (fun vA vM o k1 k2 k3 k4 k5 k6 k7 => ?_) nf 0 0 uA uM (by omega) g1' g2 g3 ⟨fun _ => 0, rfl, rfl, fun j hj => absurd hj (by omega)⟩ g4 (fun j hj => absurd hj (by omega))
      have hJv := (k1.jl rfl).2
      have htv := hJv.top
      have hlvv := hJv.lev
      have hb : fX8_body_ (Int32.ofNat (c1 + 1)) (gi vA 4 9) vA = si vA 24 (c1 + 1) (Int32.ofNat t) := by
        unfold fX8_body_
        rw [rsi_iN (by omega) (by omega), show gi vA 4 9 = Int32.ofNat t from hJv.1.1.2.2.2.2.2.2.2.1]
        rfl
      rw [hb]
      have fA : ∀ k j', ¬ (k = 24 ∧ j' = c1 + 1) → gi (si vA 24 (c1 + 1) (Int32.ofNat t)) k j' = gi vA k j' := fun k j' hk => gi_si1 (by omega)
      have hOA : OFF (fun k j' => k = 24 ∧ j' = c1 + 1) (si vA 24 (c1 + 1) (Int32.ofNat t)) vA := OFF.si ⟨rfl, rfl⟩
      have h24 : gi (si vA 24 (c1 + 1) (Int32.ofNat t)) 24 (c1 + 1) = Int32.ofNat t := gi_si0 _ _ _ _
      generalize si vA 24 (c1 + 1) (Int32.ofNat t) = yA at fA hOA h24 ⊢
      refine HE true t fa yA vM C TK SL nf o f2 (k1.upd (fun h => absurd h (by decide)) (fun _ => ⟨hOA.mono fun k j hk => by unfold PAU; omega, OFF.rf, Or.inl ⟨by unfold FLA; rw [fA 3 6 (by omega), fA 3 7 (by omega)], rfl⟩, fun l' hl' => fA 36 l' (by omega), by rw [fA 36 _ (by omega)]; exact htv.2.2.1, htv.2.2.2, hlvv.2, hJv.topq.1, fun i hi => by
        rw [k2.2.2.2.1.2.2.1]
        exact of_ne (by omega) (by omega) (by omega), Or.inl rfl⟩)) (fun _ => ⟨h5, htm, h6, ⟨k2.off (hOA.mono fun k j hk => by omega) OFF.rf EXF.rf, fun j hj => ?_, ?_, by rw [fA 18 _ (by omega)]; exact k5, h24, k7⟩, STEP.at2 k6 (hOA.mono fun k j hk => by unfold NQA2; omega) OFF.rf k6.1 k6.2.1 EXF.rf⟩) (fun h => absurd h (by decide))
      · rw [fA 16 _ (by omega)]
        rcases (k3 j hj).1 with ⟨x1, x2 | ⟨_, k', y1, y2, _⟩⟩ | x
        · exact Or.inl ⟨x1, x2⟩
        · omega
        · exact Or.inr x
      · obtain ⟨f, f1', f2', f3⟩ := k4
        refine ⟨f, f1', f2', fun j hj => ?_⟩
        obtain ⟨w, w1, w2, w3, w4⟩ := f3 j hj
        exact ⟨w, w1, w2, by rw [fA 18 _ (by omega)]; exact w3, w4⟩) (fo := f1) (fm := f1) nv 0 wA wM (by omega) hst hdw hvc h9
    rw [← hN, show N = f1 + nv + 1 by omega]
    exact key
end JT
section JT
variable {kd wr nm : Nat → Nat} {vv : Nat → Int64} {m z : Nat} {gA gM : Wd} {lv : Bool} {sl us B : Nat} {stk obl stkF : List Nat} {prs : PRL} {C TK : Nat → Nat} {SL : Nat → List Nat} {t d b : Nat} {fa : Int32} {wA wM : Wd} {γ α : Type} {wd : γ → Wd} {S : γ → α → Wd → Prop} {P : (Nat → Nat) → Nat → Wd → Wd → Prop}
theorem a_h47 {N : Nat} {a2 a3 a4 : Int32} {w : Wd} {K : Wd → Option γ} (hN : N = FU) : bn (fX4_heading_47 a2 a3 a4 w) K = lt (fX9_need (Int32.ofNat 41) w) fun w1 => lt2 (fX9_take (Int32.ofNat 11) (fX8_formals a2 a3 a4 w1)) fun x4 w5 => if x4 = true then (bn2 (oX4_values_2 N a2 0 w5) fun x7 w8 => lt (fX9_need (Int32.ofNat 41) w8) fun w9 => bn (oX4_heading_110 N a2 (gi (fX8_formals a2 a3 a4 w1) 4 9) x7 0 w9) K) else bn (oX4_heading_110 N a2 (gi (fX8_formals a2 a3 a4 w1) 4 9) 0 0 w5) K := by
  have hv : ∀ u, fX4_values a2 u = oX4_values_2 N a2 0 u := fun u => by unfold fX4_values; rw [hN]
  have hat : ∀ u, fX9_at u = gi u 4 9 := fun _ => rfl
  unfold fX4_heading_47
  rw [← hN, show (41 : Int32) = Int32.ofNat 41 from rfl, show (11 : Int32) = Int32.ofNat 11 from rfl, ltq, ltq, ltq, ltq, hat]
  generalize fX8_formals a2 a3 a4 (fX9_need (Int32.ofNat 41) w) = u
  rw [bn_lt2, lt2q, lt2q]
  cases (fX9_take (Int32.ofNat 11) u).1
  · rw [if_neg (by decide), if_neg (by decide)]
  · rw [if_pos rfl, if_pos rfl, bn_bn2, hv]
    refine bn2_cg fun x7 w8 => ?_
    rw [ltq, ltq]
theorem m_283 {rc : TX12_block} {N : Nat} {a4 a5 : Int32} {w : Wd} {K : Int32 → Wd → Option (Option α × Wd)} (hN : N = FU) : be (fX12_procedure_283 rc a4 a5 w) K = be (fX12_expect 59 w) fun _ w3 => be (fX12_skip 263 w3) fun x7 w8 => if x7 = true then be (oX12_procedure_324 rc N a4 a5 (gi w 0 42) (gi w8 0 7) w8) K else be (oX12_procedure_354 rc N a4 a5 (gi w 0 42) (gi w3 0 7) (gi w3 0 7) w8) K := by
  subst hN
  unfold fX12_procedure_283
  generalize FU = N
  rw [ltq, be_be]
  refine be_cg fun x w3 => ?_
  rw [ltq, ltq, be_be]
  refine be_cg fun c w8 => ?_
  cases c
  · rw [if_neg (by decide), if_neg (by decide)]
  · rw [if_pos rfl, if_pos rfl, ltq]
theorem a_v20 {N : Nat} {a1 : Int32} {w : Wd} {K : Int32 → Wd → Option γ} : bn2 (oX4_values_2 (N + 1) a1 0 w) K = bn2 (fX4_values_25 (oX4_values_2 N) a1 (Int32.ofNat 0) w) K := by
  show bn2 (fX4_values_2 (oX4_values_2 N) a1 0 w) K = _
  unfold fX4_values_2
  rw [if_neg (by decide), if_pos rfl]
  rfl
theorem a_f20 {N : Nat} {w : Wd} {K : Int32 → Wd → Option γ} : bn2 (oX4_formals_2 (N + 1) 0 w) K = bn2 (fX4_formals_25 (oX4_formals_2 N) (Int32.ofNat 0) w) K := by
  show bn2 (fX4_formals_2 (oX4_formals_2 N) 0 w) K = _
  unfold fX4_formals_2
  rw [if_neg (by decide), if_pos rfl]
  rfl
theorem J.h47 (hT : TOKS kd wr nm vv m z gA gM) {c1 pn p sp sf l ty0 tok nf t0 : Nat} {prs1 prs0 : PRL} {stk0 : List Nat} {C0 Cb : Nat → Nat} {wA0 wM0 : Wd} {KA : Wd → Option γ} {KM : Int32 → Wd → Option (Option α × Wd)} {rc : TX12_block} {a2 a3 b4 b5 : Int32} {Q : Nat → Nat → Prop} (hb : 2800 ≤ b) (hnf : nf ≤ 9000) (hlen : prs1.length = l + 1) (hc01 : C0 1 ≤ c1) (hz2 : 2 ≤ z)
    (hPF : STBJ stk ((pn, 6, 1 + 2 * nf) :: prs1) obl (PF C0 t0 stk0 prs0 obl wA0 wM0)) (hQ : ∀ a c, Q nf a → a ≤ c → Q nf c)
    (HE : HDE kd wr nm vv m z gA gM stk obl d b B wd S stkF c1 pn p sp sf l ty0 tok prs1 Cb C0 t0 stk0 prs0 wA0 wM0 rc b4 b5 KA KM Q)
    (hsl : sl ≤ 1) (hst : STJ kd wr nm vv m z gA gM lv sl c1 stk ((pn, 6, 1 + 2 * nf) :: prs1) C TK SL t d b fa wA wM) (hl : lv = true → d ≤ 40 ∧ a2 = Int32.ofNat (c1 + 1) ∧ a3 = Int32.ofNat (c1 + 2) ∧ Q nf (t + 1) ∧ KEP Cb c1 tok C TK ∧ FMI kd wr nm c1 pn p sp sf l ty0 tok nf C0 t0 stk0 obl prs0 wA0 wM0 C TK t wA wM) :
    GLJ kd wr nm z gA gM wd lv stkF fa B (bn (fX4_heading_47 a2 a3 (Int32.ofNat nf) wA) KA) (be (fX12_procedure_283 rc b4 b5 wM) KM) S := by
  obtain ⟨n9, hn9⟩ : ∃ n, n = 9000 := ⟨_, rfl⟩
  obtain ⟨fo, hfo⟩ := FU_ge (k := 9003) (by omega)
  obtain ⟨N, hN⟩ : ∃ N, N = FU := ⟨_, rfl⟩
  rw [a_h47 hN, m_283 hN]
  rw [← hN] at hfo
  obtain ⟨F, hF⟩ : ∃ F, N = (F + n9 + 1) + 1 := ⟨fo + 1, by omega⟩
  obtain ⟨F2, hF2⟩ : ∃ F, N = (F + n9) + 1 := ⟨fo + 2, by omega⟩
  have aV : ∀ (a1 : Int32) (w : Wd) (K : Int32 → Wd → Option γ), bn2 (oX4_values_2 N a1 0 w) K = bn2 (fX4_values_25 (oX4_values_2 (F + n9 + 1)) a1 (Int32.ofNat 0) w) K := fun a1 w K => by rw [hF]; exact a_v20
  refine J.need (c := 41) (x := 59) (P := fun C' t' a c => lv = true → PF C0 t0 stk0 prs0 obl wA0 wM0 C' t' a c ∧ PF C t stk ((pn, 6, 1 + 2 * nf) :: prs1) obl wA wM C' t' a c) hT (STBJ.if fun _ => STBJ.and hPF PF.st0) hst (fun h _ => ⟨(hl h).2.2.2.2.2.2.2.2.2.2.1, STEP.rf⟩) (by omega) (fun h => (hl h).1) hb (by omega) rfl (fun lv1 t1 fa1 uA uM hst1 hl1 hd1 => ?_)
  -- the class notes how many formals there are
  have hfo1 : lv1 = true → fX8_formals a2 a3 (Int32.ofNat nf) uA = si (si uA 20 (c1 + 1) (Int32.ofNat (c1 + 2))) 19 (c1 + 1) (Int32.ofNat nf) ∧ (gi wM 0 42) = Int32.ofNat (c1 + 1 + nf) := fun h => by
    obtain ⟨g1, g2, g3, g4, g5⟩ := hl1 h
    obtain ⟨y0, y1, y2, y3, y4, y5⟩ := hl g1
    have hJ := (hst.jl g1).2
    have hcc := hJ.2.2.2.2.2.1
    have hwt := hT.1 t
    have hc1 := y5.1
    refine ⟨?_, ?_⟩
    · unfold fX8_formals
      rw [y1, y2, ltq, ltq, rsi_iN (by omega) (by omega), rsi_iN (by omega) (by omega)]
    · rw [hJ.2.2.2.2.2.2.2.1.2.1, hc1]
  have hOF : OFF PAN (fX8_formals a2 a3 (Int32.ofNat nf) uA) uA := by
    unfold fX8_formals
    exact OFF.tr (OFF.rsi (fun _ => by unfold PAN; omega)) (OFF.rsi (fun _ => by unfold PAN; omega))
  have hSP : lv1 = true → lv = true ∧ OFF (fun k j => (k = 19 ∨ k = 20) ∧ j = c1 + 1) (fX8_formals a2 a3 (Int32.ofNat nf) uA) uA ∧ Q nf t1 ∧ PF C0 t0 stk0 prs0 obl wA0 wM0 C t1 (fX8_formals a2 a3 (Int32.ofNat nf) uA) uM ∧ HDV kd TK c1 pn p sp sf l ty0 tok nf 0 C t1 (fX8_formals a2 a3 (Int32.ofNat nf) uA) uM ∧ ∀ i, i < nf → gi (fX8_formals a2 a3 (Int32.ofNat nf) uA) 16 (c1 + 1 + i + 1) = 3 := fun h => by
    obtain ⟨e1, e2⟩ := hfo1 h
    obtain ⟨g1, g2, g3, g4, g5⟩ := hl1 h
    obtain ⟨y0, y1, y2, y3, y4, x1, x2, x3, x4, x5, x6, x7, x8, x9⟩ := hl g1
    obtain ⟨v1, v2⟩ := g5 g1
    have hOA : OFF (fun k j => (k = 19 ∨ k = 20) ∧ j = c1 + 1) (fX8_formals a2 a3 (Int32.ofNat nf) uA) uA := by
      rw [e1]
      exact OFF.tr (OFF.si (by omega)) (OFF.si (by omega))
    have h19 : gi (fX8_formals a2 a3 (Int32.ofNat nf) uA) 19 (c1 + 1) = Int32.ofNat nf := by rw [e1, gi_si0]
    have h20 : gi (fX8_formals a2 a3 (Int32.ofNat nf) uA) 20 (c1 + 1) = Int32.ofNat (c1 + 2) := by rw [e1, gi_si1 (by omega), gi_si0]
    generalize fX8_formals a2 a3 (Int32.ofNat nf) uA = yA at hOA h19 h20 ⊢
    have fA : ∀ k j', ¬ ((k = 19 ∨ k = 20) ∧ j' = c1 + 1) → gi yA k j' = gi uA k j' := fun k j' hk => (hOA k j' hk).1
    refine ⟨g1, hOA, hQ _ _ y3 (by omega), STEP.at2 v1 (hOA.mono fun k j hk => by unfold NQA2; omega) OFF.rf v1.1 v1.2.1 EXF.rf, ⟨x1, x2, by omega, (x7.step v2 (by omega) x5 x2).agr (fun k hk => fA k _ (by omega)) (fA 25 _ (by omega)) (fun _ _ => rfl) (fun _ _ => rfl) EXF.rf, ⟨h19, h20, ((v2.2.2.2.1 31 pn (Or.inr (Or.inr (Or.inr (Or.inr (Or.inr (Or.inl ⟨by omega, x2, fun hh => by omega⟩))))))).1).trans x8⟩, fun i hi => ?_⟩, fun i hi => ?_⟩
    · exact ((x9 i hi).1.step v2 (by omega)).agr (Nat.le_refl _) (Nat.le_refl _) (fun k hk => fA k _ (by omega)) (fun j' hj' => fA 25 j' (by omega)) (fun _ _ => rfl) EXF.rf
    · rw [fA 16 _ (by omega), v2.2.2.1 16 _ (Or.inl ⟨by omega, by omega, by omega⟩)]
      exact (x9 i hi).2
  generalize hYA : fX8_formals a2 a3 (Int32.ofNat nf) uA = YA at hOF hSP ⊢
  have hst2 : STJ kd wr nm vv m z gA gM lv1 0 c1 stk ((pn, 6, 1 + 2 * nf) :: prs1) C TK SL t1 d b fa1 YA uM := hst1.upd (fun _ => hOF) (fun h => by
    obtain ⟨g0, hOA, g1, g2, g3, g4⟩ := hSP h
    have fA : ∀ k j', ¬ ((k = 19 ∨ k = 20) ∧ j' = c1 + 1) → gi YA k j' = gi uA k j' := fun k j' hk => (hOA k j' hk).1
    have hJ := (hst1.jl h).2
    have htop := hJ.top
    exact ⟨hOA.mono fun k j hk => by unfold PAU; omega, OFF.rf, Or.inl ⟨by unfold FLA; rw [fA 3 6 (by omega), fA 3 7 (by omega)], rfl⟩, fun l' hl' => fA 36 l' (by omega), by rw [fA 36 _ (by omega)]; exact htop.2.2.1, htop.2.2.2, hJ.lev.2, hJ.topq.1, fun i hi => by
      rw [g3.2.2.2.1.2.2.1]
      have := hJ.2.2.2.2.2.1
      have := hT.1 t1
      have := g3.1
      exact of_ne (by omega) (by omega) (by omega), Or.inl rfl⟩)
  have h49 : gi YA 4 9 = Int32.ofNat t1 := hst2.in1.1.2.2.2.2.2.2.2.1
  have h07 : lv1 = true → gi uM 0 7 = Int32.ofNat t1 := fun h => (hst2.jl h).2.2.1.2.2.2.1
  rw [h49]
  have ht1z : t1 ≤ 8193 := by have := hst2.in1.tz; have := hst2.in1.z9; omega
  have hdz : lv1 = false → t1 = z - 1 := hd1
  have h42 : lv1 = true → gi wM 0 42 = Int32.ofNat (c1 + 1 + nf) := fun h => (hfo1 h).2
  refine J.take (c := 11) (x := 263) (P := fun C' t' a c => lv1 = true → PF C0 t0 stk0 prs0 obl wA0 wM0 C' t' a c ∧ PF C t1 stk ((pn, 6, 1 + 2 * nf) :: prs1) obl YA uM C' t' a c) hT (STBJ.if fun _ => STBJ.and hPF PF.st0) hst2 (fun h _ => ⟨(hSP h).2.2.2.1, STEP.rf⟩) (by omega) (fun h => (hl (hl1 h).1).1) (by omega) rfl (fun hk vA vM hst3 hl3 => ?_) (fun hk => ?_)
  · -- value
    rw [if_pos rfl, if_pos rfl]
    obtain ⟨hlv, _, _⟩ := hst2.live (show kd t1 ≠ 0 by omega)
    subst hlv
    obtain ⟨g0, hOA, g1, g2, g3, g4⟩ := hSP rfl
    obtain ⟨k1, k2⟩ := hl3 rfl
    obtain ⟨k3, k4⟩ := k2 rfl
    obtain ⟨y0, y1, y2, y3, y4, y5⟩ := hl g0
    subst y1
    have h07' : gi vM 0 7 = Int32.ofNat (t1 + 1) := (hst3.jl rfl).2.2.1.2.2.2.1
    have hz9 := hst3.in1.z9
    have htz := hst3.in1.tz
    have hmz := hT.2.2.1
    have e3 : ∀ w, oX12_procedure_324 rc N b4 b5 (Int32.ofNat (c1 + 1 + nf)) (Int32.ofNat (t1 + 1)) w = fX12_procedure_324 rc (oX12_procedure_324 rc (F2 + n9)) b4 b5 (Int32.ofNat (c1 + 1 + nf)) (Int32.ofNat (t1 + 1)) w := fun w => by
      rw [hF2]
      rfl
    rw [h42 rfl, h07', aV, e3]
    have hHW : HWV nm TK c1 nf (t1 + 1) 0 vA := fun i hi => by
      rw [k4.2.2.1 16 _ (Or.inl ⟨by omega, by omega, by have := g3.1; omega⟩), g4 i hi]
      exact ⟨fun h => absurd h (by decide), fun ⟨k, hk, _⟩ => absurd hk (by omega)⟩
    have h5 : Int32.ofNat t1 + 1 = Int32.ofNat (t1 + 1) := ad1_iN t1
    have hw0 : pnd wr [] vA = vA := pnd_nil
    rw [← hw0]
    refine vls_loop (lv := true) (obl := obl) (q := 1 + 2 * nf) (p := p) (sp := sp) (sf := sf) (l := l) (ty := ty0) (tok := tok) (C0 := C0) (t0 := t0) (stk0 := stk0) (prs0 := prs0) (wA0 := wA0) (wM0 := wM0) hT hb hlen hc01 hPF (fun lv4 t4 fa4 sA sM n L hn4 hst4 hl4 hd4 => ?_) (fo := F) (fm := F2) n9 true (t1 + 1) fa1 vA vM 0 [] (by omega) (by omega) hst3 (fun _ => ⟨rfl, y0, by omega, fun k hk => absurd hk (by omega), rfl, hHW, k3, g3.step k4⟩) (fun h => absurd h (by decide))
    -- behind the NAMES
    unfold vlE
    have h074 : lv4 = true → gi sM 0 7 = Int32.ofNat t4 := fun h => (hst4.jl h).2.2.1.2.2.2.1
    rw [← hN]
    refine GLJ.ref (rM' := be (fX12_expect 59 sM) fun _ w10 => be (oX12_procedure_354 rc N b4 b5 (Int32.ofNat (c1 + 1 + nf)) (Int32.ofNat (t1 + 1)) (Int32.ofNat t4) w10) KM) (fun h => by rw [h074 h]) ?_
    refine J.needP (c := 41) (x := 59) (q0 := FNS wr L (FLA sA)) (P := fun C' t' a c => lv4 = true → PF C0 t0 stk0 prs0 obl wA0 wM0 C' t' a c ∧ PF C t4 stk ((pn, 6, 1 + 2 * nf) :: prs1) obl sA sM C' t' a c) hT (STBJ.if fun _ => STBJ.and hPF PF.st0) hst4 (fun h _ => ⟨(hl4 h).2.2.2.2.2.2.1, STEP.rf⟩) (by omega) (fun _ => y0) hb (by omega) rfl (fun lv5 t5 fa5 pA pM hst5 hF5 hl5 hd5 => ?_)
    have ew : fl (FNS wr L (FLA sA)) pA = pnd wr L pA := by
      unfold pnd
      rw [hF5]
    rw [ew, hF2]
    refine hds_loop (lv := lv5) (tl := t4) (obl := obl) (q := 1 + 2 * nf) (p := p) (sp := sp) (sf := sf) (l := l) (ty0 := ty0) (tok := tok) (v0 := t1 + 1) (nv := n + 1) (L := L) (C0 := C0) (t0 := t0) (stk0 := stk0) (prs0 := prs0) (wA0 := wA0) (wM0 := wM0) (a6 := Int32.ofNat (n + 1)) hT (fun _ => rfl) hb hlen hc01 hPF (fun lv6 t6 fa6 qA qM L6 hst6 hl6 hd6 => ?_) (fo := F2) (fm := F2) n9 lv5 t5 fa5 pA pM 0 L (by omega) (by omega) hst5 (fun h => ?_) hd5
    · refine J.h148 (Cb := Cb) (Q := Q) (v0 := t1 + 1) (nv := n + 1) (ve := t4) hT (by omega) hlen hc01 HE hst6 (fun h => ?_) hd6
      obtain ⟨a1, atl, a2, a3, a4⟩ := hl6 h
      obtain ⟨b1, b2, b3, b4', b5'⟩ := hl5 a1
      obtain ⟨r1, r2, r3, r4, r5, r6, r7, r8⟩ := hl4 b1
      have hm9 := (hst6.jl h).2.2.1.1.1
      have ht6 := a4.2.1.2.1
      refine ⟨rfl, fun _ => h5, ⟨by omega, by omega, fun i hi => ⟨by omega, ?_, r4 i hi⟩⟩, by omega, hQ _ _ g1 (by omega), y4, a3.trans r5, a4⟩
      omega
    · obtain ⟨b1, b2, b3, b4', b5'⟩ := hl5 h
      obtain ⟨r1, r2, r3, r4, r5, r6, r7, r8⟩ := hl4 b1
      obtain ⟨b6, b7⟩ := b5' b1
      exact ⟨h, y0, by omega, rfl, r6.step b7 (by have := r8.1; omega), b6, (r8.step b7).cb (by omega)⟩
  · rw [if_neg (show ¬ (false = true) by decide), if_neg (show ¬ (false = true) by decide)]
    rw [hF2]
    refine GLJ.ref (rM' := be (oX12_procedure_354 rc (F2 + n9 + 1) b4 b5 (Int32.ofNat (c1 + 1 + nf)) (Int32.ofNat t1) (Int32.ofNat t1) uM) KM) (fun h => by rw [h42 h, h07 h]) ?_
    have hw0 : pnd wr [] YA = YA := pnd_nil
    rw [← hw0]
    refine hds_loop (lv := lv1) (tl := t1) (obl := obl) (q := 1 + 2 * nf) (p := p) (sp := sp) (sf := sf) (l := l) (ty0 := ty0) (tok := tok) (v0 := t1) (nv := 0) (L := []) (C0 := C0) (t0 := t0) (stk0 := stk0) (prs0 := prs0) (wA0 := wA0) (wM0 := wM0) (a6 := Int32.ofNat 0) hT (fun h => (hl (hSP h).1).2.1) hb hlen hc01 hPF (fun lv6 t6 fa6 qA qM L6 hst6 hl6 hd6 => ?_) (fo := F2) (fm := F2) n9 lv1 t1 fa1 YA uM 0 [] (by have := hst2.in1.z9; omega) (by omega) hst2 (fun h => ?_) hdz
    · refine J.h148 (Cb := Cb) (Q := Q) (v0 := t1) (nv := 0) (ve := t1) hT (by omega) hlen hc01 HE hst6 (fun h => ?_) hd6
      obtain ⟨a1, atl, a2, a3, a4⟩ := hl6 h
      obtain ⟨y0, y1, y2, y3, y4, y5⟩ := hl (hSP a1).1
      refine ⟨y1, fun h => absurd h (by omega), ⟨by omega, by omega, fun i hi => absurd hi (by omega)⟩, by omega, hQ _ _ (hSP a1).2.2.1 (by omega), y4, a3, a4⟩
    · obtain ⟨g0, hOA, g1, g2, g3, g4⟩ := hSP h
      refine ⟨h, (hl g0).1, Nat.le_refl _, rfl, fun i hi => ?_, g2, g3.cb (by omega)⟩
      rw [g4 i hi]
      exact ⟨fun h => absurd h (by decide), fun ⟨k, hk, _⟩ => absurd hk (by omega)⟩
end JT
section JT
variable {kd wr nm : Nat → Nat} {vv : Nat → Int64} {m z : Nat} {gA gM : Wd} {lv : Bool} {sl us B : Nat} {stk obl stkF : List Nat} {prs : PRL} {C TK : Nat → Nat} {SL : Nat → List Nat} {t d b : Nat} {fa : Int32} {wA wM : Wd} {γ α : Type} {wd : γ → Wd} {S : γ → α → Wd → Prop} {P : (Nat → Nat) → Nat → Wd → Wd → Prop}
theorem a_heading {N base : Nat} {a1 a2 : Int32} {w : Wd} {K : Wd → Option γ} (hN : N = FU) (h : IN1 kd wr z w t base fa) : bn (fX4_heading a1 a2 w) K = if kd t = 43 then lt2 (fX9_open a1 w) fun _ w5 => bn2 (oX4_formals_2 N 0 w5) fun x6 w7 => lt (fX9_need (Int32.ofNat 44) w7) fun w8 => bn (fX4_heading_47 a2 (gi w 13 12) x6 w8) K else bn (fX4_heading_47 a2 (gi w 13 12) 0 w) K := by
  have hf : ∀ u, fX4_formals u = oX4_formals_2 N 0 u := fun u => by unfold fX4_formals; rw [hN]
  have h8 : fX8_size w = gi w 13 12 := rfl
  have h50 := h.1.2.2.1 t
  unfold fX4_heading
  rw [ltq, ltq, a_kind h.1, h8]
  generalize fX4_heading_47 = g
  by_cases q : kd t = 43
  · rw [if_pos q, if_pos (show Int32.ofNat (kd t) = 43 by rw [q]; rfl), bn_lt2]
    refine congrArg (lt2 (fX9_open a1 w)) ?_
    funext x4 w5
    rw [bn_bn2, hf]
    refine bn2_cg fun x6 w7 => ?_
    rw [ltq, ltq]
    rfl
  · rw [if_neg q, if_neg (show ¬ (Int32.ofNat (kd t) = 43) from of_ne (n := kd t) (k := 43) (by omega) (by omega) q)]
/-- the reference behind a procedure's NAME, in its SCOPE -/
def pfM (rc : TX12_block) (N : Nat) (b4 b5 : Int32) (K : Int32 → Wd → Option (Option α × Wd)) (w33 : Wd) : Option (Option α × Wd) := be (fX12_skip 40 w33) fun x34 w35 => if x34 = true then (lt (si w35 0 8 ((gi w35 0 8) + 1)) fun w38 => be (oX12_procedure_187 rc N b4 b5 w38) K) else be (fX12_procedure_283 rc b4 b5 w35) K
theorem J.head (hT : TOKS kd wr nm vv m z gA gM) {s c1 pn p sp l ty0 tok t0 : Nat} {prs1 prs0 : PRL} {stk0 : List Nat} {C0 Cb : Nat → Nat} {wA0 wM0 : Wd} {KA : Wd → Option γ} {KM : Int32 → Wd → Option (Option α × Wd)} {rc : TX12_block} {a2 b4 b5 : Int32} {Q : Nat → Nat → Prop} {N : Nat} (hN : N = FU) (hb : 2800 ≤ b) (hlen : prs1.length = l + 1) (hc01 : C0 1 ≤ c1) (hz2 : 2 ≤ z) (hsl : sl ≤ 1) (ht1 : 1 ≤ t)
    (hPF : ∀ q, STBJ (s :: stk) ((pn, 6, q) :: prs1) obl (PF C0 t0 stk0 prs0 obl wA0 wM0)) (hQ : (∀ n a c, Q n a → a ≤ c → Q n c) ∧ ∀ n a c, Q 0 a → a + 2 * n ≤ c → Q n c)
    (HE : HDE kd wr nm vv m z gA gM (s :: stk) obl d b B wd S stkF c1 pn p sp s l ty0 tok prs1 Cb C0 t0 stk0 prs0 wA0 wM0 rc b4 b5 KA KM Q)
    (hst : STJ kd wr nm vv m z gA gM lv sl c1 (s :: stk) ((pn, 6, 1) :: prs1) C TK SL t d b fa wA wM) (hl : lv = true → d ≤ 40 ∧ a2 = Int32.ofNat (c1 + 1) ∧ Q 0 (t + 1) ∧ KEP Cb c1 tok C TK ∧ FMI kd wr nm c1 pn p sp s l ty0 tok 0 C0 t0 stk0 obl prs0 wA0 wM0 C TK t wA wM) :
    GLJ kd wr nm z gA gM wd lv stkF fa B (bn (fX4_heading (Int32.ofNat d) a2 wA) KA) (pfM rc N b4 b5 KM wM) S := by
  obtain ⟨n9, hn9⟩ : ∃ n, n = 9000 := ⟨_, rfl⟩
  obtain ⟨fo, hfo⟩ := FU_ge (k := 9003) (by omega)
  rw [← hN] at hfo
  have hin := hst.in1
  have h312 : lv = true → gi wA 13 12 = Int32.ofNat (c1 + 2) := fun h => by
    have hJ := (hst.jl h).2
    rw [hJ.2.2.2.2.2.2.2.2.2.1.2.2.2.2.2.2, (hl h).2.2.2.2.1]
  obtain ⟨F, hF⟩ : ∃ F, N = (F + n9 + 1) + 1 := ⟨fo + 1, by omega⟩
  obtain ⟨F2, hF2⟩ : ∃ F, N = (F + n9) + 1 := ⟨fo + 2, by omega⟩
  have aF : ∀ (w : Wd) (K : Int32 → Wd → Option γ), bn2 (oX4_formals_2 N 0 w) K = bn2 (fX4_formals_25 (oX4_formals_2 (F + n9 + 1)) (Int32.ofNat 0) w) K := fun w K => by rw [hF]; exact a_f20
  have e3 : ∀ w, oX12_procedure_187 rc N b4 b5 w = fX12_procedure_187 rc (oX12_procedure_187 rc (F2 + n9)) b4 b5 w := fun w => by
    rw [hF2]
    rfl
  rw [a_heading hN hin]
  unfold pfM
  by_cases q : kd t = 43
  · obtain ⟨hlv, _, _⟩ := hst.live (show kd t ≠ 0 by omega)
    subst hlv
    obtain ⟨y0, y1, y2, y3, y4⟩ := hl rfl
    have hJ := (hst.jl rfl).2
    rw [if_pos q, m_skip (k := 43) (x := 40) hJ.2.1 y0 rfl (by omega) q, be_so, if_pos rfl]
    refine J.opn (KM := fun _ w38 => be (oX12_procedure_187 rc N b4 b5 w38) KM) (P := fun C' t' a c => PF C0 t0 stk0 prs0 obl wA0 wM0 C' t' a c ∧ PF C t (s :: stk) ((pn, 6, 1) :: prs1) obl wA wM C' t' a c) hT (STBJ.and (hPF 1) PF.st0) hst (fun _ => ⟨y4.2.2.2.2.2.1, STEP.rf⟩) (by omega) (by omega) y0 hb hsl rfl (fun uM h => ⟨si uM 0 9 (Int32.ofNat (wr (t + 1))), by rw [e3, m_187, m_expect_no (x := 285) (k := 2) h rfl (by omega) (Or.inl rfl) (by omega), be_no], gi_si0 _ _ _ _, OFF.si (by unfold PMM; omega)⟩) (fun lv1 t1 fa1 uA uM hst1 hl1 hd1 => ?_)
    have htz := hst1.in1.tz
    have hz9 := hst1.in1.z9
    have ht11 : 1 ≤ t1 := by
      cases lv1
      · have := hd1 rfl; omega
      · have := (hl1 rfl).2.2.1; omega
    rw [aF, e3]
    refine fms_loop (Q := lv1 = true) (tl := t1) (Cb := Cb) (obl := obl) (p := p) (sp := sp) (ty := ty0) (tok := tok) (C0 := C0) (t0 := t0) (stk0 := stk0) (prs0 := prs0) (wA0 := wA0) (wM0 := wM0) (KM := KM) hT hb hlen hPF (fun lv2 t2 fa2 vA vM C2 TK2 SL2 q2 j hj hst2 hl2 hd2 => ?_) (fo := F) (fm := F2) n9 lv1 C TK SL t1 fa1 uA uM 1 0 (by omega) (by omega) hst1 (fun h => ?_) hd1
    · -- ')'
      have hq2 : lv2 = true → q2 = 1 + 2 * (j + 1) := fun h => (hl2 h).2.2.1
      have hst2' : STJ kd wr nm vv m z gA gM lv2 1 c1 (s :: stk) ((pn, 6, 1 + 2 * (j + 1)) :: prs1) C2 TK2 SL2 t2 (d + 1) b fa2 vA vM := by
        cases lv2
        · exact hst2.dd rfl
        · rw [← hq2 rfl]; exact hst2
      refine J.dep (d' := d) (P := fun C' t' a c => lv2 = true → PF C0 t0 stk0 prs0 obl wA0 wM0 C' t' a c ∧ PF C2 t2 (s :: stk) ((pn, 6, 1 + 2 * (j + 1)) :: prs1) obl vA vM C' t' a c) hT (STBJ.if fun _ => STBJ.and (hPF _) PF.st0) hst2' (fun h _ => ⟨(hl2 h).2.2.2.2.2.2.2.2.2.1, STEP.rf⟩) (by omega) (dep_dn hst2') (fun oM hst3 hl3 => ?_)
      refine J.need (c := 44) (x := 41) (P := fun C' t' a c => lv2 = true → PF C0 t0 stk0 prs0 obl wA0 wM0 C' t' a c ∧ PF C2 t2 (s :: stk) ((pn, 6, 1 + 2 * (j + 1)) :: prs1) obl vA vM C' t' a c) hT (STBJ.if fun _ => STBJ.and (hPF _) PF.st0) hst3 hl3 (by omega) (fun _ => y0) hb (by omega) rfl (fun lv4 t4 fa4 sA sM hst4 hl4 hd4 => ?_)
      refine J.h47 (Cb := Cb) (Q := Q) hT hb (by omega) hlen hc01 hz2 (hPF _) (hQ.1 _) HE (by omega) hst4 (fun h => ?_)
      obtain ⟨g1, g2, g3, g4, g5⟩ := hl4 h
      obtain ⟨⟨rq, rtl⟩, r1, r2, r3, x1, x2, x3, x4, x5, x6, x7, x8, x9⟩ := hl2 g1
      obtain ⟨v1, v2⟩ := g5 g1
      refine ⟨y0, y1, h312 rfl, hQ.2 _ _ _ y2 (by have := (hl1 rq).2.2.1; omega), r3, x1, x2, x3, x4, by omega, v1, x7.step v2 (by omega) x5 x2, ((v2.2.2.2.1 31 pn (Or.inr (Or.inr (Or.inr (Or.inr (Or.inr (Or.inl ⟨by omega, x2, fun hh => by omega⟩))))))).1).trans x8, fun i hi => ?_⟩
      obtain ⟨a1, a2⟩ := x9 i hi
      exact ⟨a1.step v2 (by omega), (v2.2.2.1 16 _ (Or.inl ⟨by omega, by omega, by omega⟩)).trans a2⟩
    · obtain ⟨g1, g2, g3, g4, g5⟩ := hl1 h
      obtain ⟨x1, x2, x3, x4, x5, x6, x7, x8, x9⟩ := y4
      refine ⟨⟨⟨h, by omega⟩, by omega⟩, by omega, y3, x1, x2, x3, x4, by omega, g5.1, x7.step g5.2 (by omega) x5 x2, ((g5.2.2.2.2.1 31 pn (Or.inr (Or.inr (Or.inr (Or.inr (Or.inr (Or.inl ⟨by omega, x2, fun hh => by omega⟩))))))).1).trans x8, fun i hi => absurd hi (by omega)⟩
  · rw [if_neg q]
    have hgo : GLJ kd wr nm z gA gM wd lv stkF fa B (bn (fX4_heading_47 a2 (gi wA 13 12) 0 wA) KA) (be (fX12_procedure_283 rc b4 b5 wM) KM) S := by
      have e0 : (0 : Int32) = Int32.ofNat 0 := rfl
      rw [e0]
      exact J.h47 (nf := 0) (Cb := Cb) (Q := Q) hT hb (by omega) hlen hc01 hz2 (hPF _) (hQ.1 0) HE hsl hst (fun h => by
        obtain ⟨y0, y1, y2, y3, y4⟩ := hl h
        exact ⟨y0, y1, h312 h, y2, y3, y4⟩)
    refine GLJ.ref (fun h => ?_) hgo
    rw [m_skip_no (k := 43) (x := 40) (hst.jl h).2.2.1 rfl (by omega) q, be_so, if_neg (by decide)]
end JT
