/-! BOTH SIDES: the slots of formals; a heading -/
section JT
variable {kd wr nm : Nat → Nat} {vv : Nat → Int64} {m z : Nat} {gA gM : Wd} {lv : Bool} {sl us B : Nat} {stk obl stkF : List Nat} {prs : PRL} {C TK : Nat → Nat} {SL : Nat → List Nat} {t d b : Nat} {fa : Int32} {wA wM : Wd} {γ α : Type} {wd : γ → Wd} {S : γ → α → Wd → Prop} {P : (Nat → Nat) → Nat → Wd → Wd → Prop}
/-- the slots of the first i formals: o words -/
def SLI (c1 i o : Nat) (fA fM : Wd) : Prop := ∃ f : Nat → Nat, f 0 = 0 ∧ f i = o ∧ ∀ j, j < i → ∃ w, (w = 1 ∨ w = 2) ∧ f (j + 1) = f j + w ∧ gi fA 18 (c1 + 2 + j) = Int32.ofNat (6 + f j) ∧ (w = 1 ↔ gi fM 28 (c1 + 1 + j) = 1 ∨ gi fM 24 (c1 + 1 + j) = 2)
theorem SLI.le {c1 i o : Nat} (h : SLI c1 i o wA wM) : o ≤ 2 * i := by
  obtain ⟨f, h0, h1, h2⟩ := h
  have : ∀ j, j ≤ i → f j ≤ 2 * j := by
    intro j
    induction j with
    | zero => intro _; omega
    | succ j ih =>
      intro hj
      obtain ⟨w, w1, w2, _⟩ := h2 j (by omega)
      have := ih (by omega)
      omega
  have := this i (Nat.le_refl _)
  omega
theorem a_set {n i nf c1 : Nat} {fr : Int32} {w : Wd} (hi : i < nf) (hn : c1 + 1 + nf ≤ 4100) (h14 : gi w 14 (c1 + 1) = 3) (h19 : gi w 19 (c1 + 1) = Int32.ofNat nf) (h20 : gi w 20 (c1 + 1) = Int32.ofNat (c1 + 2)) : oX4_settle_10 (n + 1) (Int32.ofNat (c1 + 1)) fr (Int32.ofNat i) w = if gi w 23 (c1 + 2 + i) = 1 then fX4_settle_63 (oX4_settle_10 n) (Int32.ofNat (c1 + 1)) fr (Int32.ofNat i) (Int32.ofNat (c1 + 2 + i)) w else fX4_settle_63 (oX4_settle_10 n) (Int32.ofNat (c1 + 1)) fr (Int32.ofNat i) (Int32.ofNat (c1 + 2 + i)) (fX1_note (gi w 21 (c1 + 2 + i)) 3 w) := by
  show fX4_settle_10 (oX4_settle_10 n) (Int32.ofNat (c1 + 1)) fr (Int32.ofNat i) w = _
  have hfm : fX8_formal (Int32.ofNat (c1 + 1)) (Int32.ofNat i) w = Int32.ofNat (c1 + 2 + i) := by
    unfold fX8_formal fX8_formal_23 fX8_sort fX8_size_
    rw [ltq, ltq, rgi_iN (by omega) (by omega), h14, if_pos rfl, ltq, ltq, rgi_iN (by omega) (by omega), h19, if_neg (nle_iN hi (by omega)), if_pos rfl, ltq, rgi_iN (by omega) (by omega), h20, add_iN]
  have hsz : fX8_size_ (Int32.ofNat (c1 + 1)) w = Int32.ofNat nf := by
    unfold fX8_size_
    rw [ltq, rgi_iN (by omega) (by omega), h19]
  have hsp : fX8_specs (Int32.ofNat (c1 + 2 + i)) w = gi w 23 (c1 + 2 + i) := by
    unfold fX8_specs
    rw [ltq, rgi_iN (by omega) (by omega)]
  have htk : fX8_token (Int32.ofNat (c1 + 2 + i)) w = gi w 21 (c1 + 2 + i) := by
    unfold fX8_token
    rw [ltq, rgi_iN (by omega) (by omega)]
  unfold fX4_settle_10
  rw [ltq, hsz, if_neg (nle_iN hi (by omega)), ltq, hfm, ltq, hsp, ltq, htk, ltq]
theorem a_63 {k : Int32 → Int32 → Int32 → Wd → Option Wd} {a1 fr : Int32} {i x : Nat} {w : Wd} (hx : x < 4104) : fX4_settle_63 k a1 fr (Int32.ofNat i) (Int32.ofNat x) w = if gi w 16 x = 2 ∨ gi w 14 x = 2 then k a1 fr (Int32.ofNat (i + 1)) (fX8_place (Int32.ofNat x) (fX5_take (Int32.ofNat 1) w).1 (fX5_take (Int32.ofNat 1) w).2) else k a1 fr (Int32.ofNat (i + 1)) (fX8_place (Int32.ofNat x) (fX5_take (Int32.ofNat 2) w).1 (fX5_take (Int32.ofNat 2) w).2) := by
  have h1 : fX4_settle_93 k true a1 fr (Int32.ofNat i) (Int32.ofNat x) w = k a1 fr (Int32.ofNat (i + 1)) (fX8_place (Int32.ofNat x) (fX5_take (Int32.ofNat 1) w).1 (fX5_take (Int32.ofNat 1) w).2) := by
    unfold fX4_settle_93
    rw [if_pos rfl, lt2q, ltq, ltq, ad1_iN]
    rfl
  have h2 : fX4_settle_93 k false a1 fr (Int32.ofNat i) (Int32.ofNat x) w = k a1 fr (Int32.ofNat (i + 1)) (fX8_place (Int32.ofNat x) (fX5_take (Int32.ofNat 2) w).1 (fX5_take (Int32.ofNat 2) w).2) := by
    unfold fX4_settle_93
    rw [if_neg (by decide), lt2q, ltq, ltq, ad1_iN]
    rfl
  have h3 : fX8_sort (Int32.ofNat x) w = gi w 14 x := by
    unfold fX8_sort
    rw [ltq, rgi_iN hx (by omega)]
  have h4 : fX8_isValue (Int32.ofNat x) w = if gi w 16 x = 2 then true else false := by
    unfold fX8_isValue
    rw [ltq, rgi_iN hx (by omega)]
  unfold fX4_settle_63
  rw [ltq, h4, ltq, h3]
  by_cases q1 : gi w 16 x = 2
  · rw [if_pos q1, if_pos rfl, if_pos (Or.inl q1), h1]
  · rw [if_neg q1, if_neg (by decide)]
    by_cases q2 : gi w 14 x = 2
    · rw [if_pos q2, if_pos (Or.inr q2), h1]
    · rw [if_neg q2, if_neg (fun h => h.elim q1 q2), h2]
theorem m_487 {rc : TX12_block} {n x e : Nat} {b4 b5 : Int32} {w : Wd} (hx : x < e) (he : e ≤ 4900) : oX12_procedure_487 rc (n + 1) b4 b5 (Int32.ofNat e) (Int32.ofNat x) w = if gi w 24 x = 0 ∨ ¬ (gi w 25 x ≤ 1) then (bn (fX12_found 3 (gi w 22 x) w) fun w2 => oX12_procedure_487 rc n b4 b5 (Int32.ofNat e) (Int32.ofNat (x + 1)) w2) else oX12_procedure_487 rc n b4 b5 (Int32.ofNat e) (Int32.ofNat (x + 1)) w := by
  have h515 : ∀ k : Int32 → Int32 → Int32 → Int32 → Wd → Option (Option Int32 × Wd), fX12_procedure_515 rc k b4 b5 (Int32.ofNat e) (Int32.ofNat x) w = bn (fX12_found 3 (gi w 22 x) w) fun w2 => k b4 b5 (Int32.ofNat e) (Int32.ofNat (x + 1)) w2 := fun k => by
    unfold fX12_procedure_515
    rw [if_pos (inb_iN (by omega) (by omega)), tc_iN (by omega), ad1_iN]
    rfl
  show fX12_procedure_487 rc (oX12_procedure_487 rc n) b4 b5 (Int32.ofNat e) (Int32.ofNat x) w = _
  unfold fX12_procedure_487
  rw [if_neg (nle_iN hx (by omega)), if_pos (inb_iN (by omega) (by omega)), tc_iN (by omega), h515]
  by_cases q1 : gi w 24 x = 0
  · rw [if_pos q1, if_pos (Or.inl q1)]
  · rw [if_neg q1, if_pos (inb_iN (by omega) (by omega))]
    by_cases q2 : gi w 25 x ≤ 1
    · rw [if_pos q2, if_neg (fun h => h.elim q1 (fun g => g q2)), ltq, ad1_iN]
    · rw [if_neg q2, if_pos (Or.inr q2)]
theorem set_loop (hT : TOKS kd wr nm vv m z gA gM) {c1 pn p sp sf l ty0 tok nf v0 nv q t0 : Nat} {prs1 prs0 : PRL} {stk0 : List Nat} {C0 : Nat → Nat} {wA0 wM0 : Wd} {KA : Wd → Option γ} {KM : Int32 → Wd → Option (Option α × Wd)} {rc : TX12_block} {b4 b5 : Int32} {fo fm : Nat} (hlen : prs1.length = l + 1) (hc01 : C0 1 ≤ c1) (hsl : sl ≤ 1)
    (HX : ∀ uA uM o, STJ kd wr nm vv m z gA gM true sl c1 stk ((pn, 6 + o, q) :: prs1) C TK SL t d b fa uA uM → HDW kd TK c1 pn p sp sf l ty0 tok nf t C t uA uM → VCI nm TK c1 nf v0 nv nv uA uM → SLI c1 nf o uA uM → gi uA 18 (c1 + 1) = Int32.ofNat o → PF C0 t0 stk0 prs0 obl wA0 wM0 C t uA uM → (∀ j, j < nf → gi uM 24 (c1 + 1 + j) = 0 → FLN (FLM uM) (wr (gi uM 22 (c1 + 1 + j)).toNatClampNeg + 1)) → GLJ kd wr nm z gA gM wd true stkF fa B (KA uA) (be (oX12_procedure_487 rc (fm + 1) b4 b5 (Int32.ofNat (c1 + 1 + nf)) (Int32.ofNat (c1 + 1 + nf)) uM) KM) S)
    : ∀ (n i o : Nat) (wA wM : Wd), i + n = nf → STJ kd wr nm vv m z gA gM true sl c1 stk ((pn, 6 + o, q) :: prs1) C TK SL t d b fa wA wM → HDW kd TK c1 pn p sp sf l ty0 tok nf t C t wA wM → VCI nm TK c1 nf v0 nv nv wA wM → SLI c1 i o wA wM → PF C0 t0 stk0 prs0 obl wA0 wM0 C t wA wM → (∀ j, j < i → gi wM 24 (c1 + 1 + j) = 0 → FLN (FLM wM) (wr (gi wM 22 (c1 + 1 + j)).toNatClampNeg + 1)) →
      GLJ kd wr nm z gA gM wd true stkF fa B (bn (oX4_settle_10 (fo + n + 1) (Int32.ofNat (c1 + 1)) (Int32.ofNat 6) (Int32.ofNat i) wA) KA) (be (oX12_procedure_487 rc (fm + n + 1) b4 b5 (Int32.ofNat (c1 + 1 + nf)) (Int32.ofNat (c1 + 1 + i)) wM) KM) S := by
  intro n
  induction n with
  | zero =>
    intro i o wA wM hi hst hdw hvc hsl2 hpf hnz
    have hi' : i = nf := by omega
    subst hi'
    have hJ := (hst.jl rfl).2
    have htop := hJ.top
    have htq := hJ.topq
    have hlv := hJ.lev
    have hcc := hJ.2.2.2.2.2.1
    have hwt := hT.1 t
    have hc1 := hdw.1
    have hle := hsl2.le
    have e : bn (oX4_settle_10 (fo + 0 + 1) (Int32.ofNat (c1 + 1)) (Int32.ofNat 6) (Int32.ofNat i) wA) KA = KA (si wA 18 (c1 + 1) (Int32.ofNat o)) := by
      show bn (fX4_settle_10 (oX4_settle_10 (fo + 0)) (Int32.ofNat (c1 + 1)) (Int32.ofNat 6) (Int32.ofNat i) wA) KA = _
      have hsz : fX8_size_ (Int32.ofNat (c1 + 1)) wA = Int32.ofNat i := by
        unfold fX8_size_
        rw [ltq, rgi_iN (by omega) (by omega)]
        exact hdw.2.2.2.2.1.1
      have hsl5 : fX5_slot wA = Int32.ofNat (6 + o) := by
        unfold fX5_slot
        rw [ltq, htop.1, rgi_iN (by omega) (by omega)]
        exact htop.2.2.1
      unfold fX4_settle_10
      rw [ltq, hsz, if_pos (ofle (Nat.le_refl _) (by omega)), ltq, hsl5, sub_iN (by omega) (by omega), show 6 + o - 6 = o by omega]
      unfold fX8_place
      rw [rsi_iN (by omega) (by omega)]
      rfl
    rw [e]
    have fA : ∀ k j', ¬ (k = 18 ∧ j' = c1 + 1) → gi (si wA 18 (c1 + 1) (Int32.ofNat o)) k j' = gi wA k j' := fun k j' hk => gi_si1 (by omega)
    have hOA : OFF (fun k j' => k = 18 ∧ j' = c1 + 1) (si wA 18 (c1 + 1) (Int32.ofNat o)) wA := OFF.si ⟨rfl, rfl⟩
    refine HX (si wA 18 (c1 + 1) (Int32.ofNat o)) wM o (hst.upd (fun h => absurd h (by decide)) (fun _ => ⟨hOA.mono fun k j hk => by unfold PAU; omega, OFF.rf, Or.inl ⟨by unfold FLA; rw [fA 3 6 (by omega), fA 3 7 (by omega)], rfl⟩, fun l' hl' => fA 36 l' (by omega), by rw [fA 36 _ (by omega)]; exact htop.2.2.1, htop.2.2.2, hlv.2, htq.1, fun i hi => by
      rw [hdw.2.2.2.1.2.2.1]
      exact of_ne (by omega) (by omega) (by omega), Or.inl rfl⟩)) (hdw.off (hOA.mono fun k j hk => by omega) OFF.rf EXF.rf) (fun j hj => by rw [fA 16 _ (by omega)]; exact hvc j hj) ?_ (gi_si0 _ _ _ _) (STEP.at2 hpf (hOA.mono fun k j hk => by unfold NQA2; omega) OFF.rf hpf.1 hpf.2.1 EXF.rf) hnz
    obtain ⟨f, f1, f2, f3⟩ := hsl2
    refine ⟨f, f1, f2, fun j hj => ?_⟩
    obtain ⟨w, w1, w2, w3, w4⟩ := f3 j hj
    exact ⟨w, w1, w2, by rw [fA 18 _ (by omega)]; exact w3, w4⟩
  | succ n ih =>
    intro i o wA wM hi hst hdw hvc hsl2 hpf hnz
    have hJ := (hst.jl rfl).2
    have hin := hst.in1
    have htop := hJ.top
    have htq := hJ.topq
    have hlv := hJ.lev
    have hcc := hJ.2.2.2.2.2.1
    have hwt := hT.1 t
    have hz2 := hT.2.2.1
    have hz3 := hT.2.2.2.1
    have htm := hJ.2.1.2.1
    have hc1 := hdw.1
    have hle := hsl2.le
    have h29 : ∀ i, i < c1 → gi wM 29 pn ≠ Int32.ofNat i := fun i hi => by
      rw [hdw.2.2.2.1.2.2.1]
      exact of_ne (by omega) (by omega) (by omega)
    obtain ⟨b1, b2, b3, b4', k, c, b5', b6, b7, b8, b9, b10⟩ := hdw.2.2.2.2.2 i (by omega)
    have ex : c1 + 1 + i + 1 = c1 + 2 + i := by omega
    rw [ex] at b8 b9
    have b21 : gi wA 21 (c1 + 2 + i) = Int32.ofNat (TK (c1 + 1 + i)) := by rw [← ex]; exact b3.1
    have b22 : gi wM 22 (c1 + 1 + i) = Int32.ofNat (TK (c1 + 1 + i)) := b3.2.2.2.2.2.1
    rw [show fo + (n + 1) + 1 = (fo + n + 1) + 1 by omega, show fm + (n + 1) + 1 = (fm + n + 1) + 1 by omega, a_set (by omega) (by omega) hdw.2.2.2.1.1.1 hdw.2.2.2.2.1.1 hdw.2.2.2.2.1.2.1, m_487 (by omega) (by omega), b21, b22, b9, b7]
    -- the fault of a formal without just one SPEC
    have hnt : ∃ vA vM, (if Int32.ofNat c = 1 then fX4_settle_63 (oX4_settle_10 (fo + n + 1)) (Int32.ofNat (c1 + 1)) (Int32.ofNat 6) (Int32.ofNat i) (Int32.ofNat (c1 + 2 + i)) wA else fX4_settle_63 (oX4_settle_10 (fo + n + 1)) (Int32.ofNat (c1 + 1)) (Int32.ofNat 6) (Int32.ofNat i) (Int32.ofNat (c1 + 2 + i)) (fX1_note (Int32.ofNat (TK (c1 + 1 + i))) 3 wA)) = fX4_settle_63 (oX4_settle_10 (fo + n + 1)) (Int32.ofNat (c1 + 1)) (Int32.ofNat 6) (Int32.ofNat i) (Int32.ofNat (c1 + 2 + i)) vA ∧ (if Int32.ofNat k = 0 ∨ ¬ (gi wM 25 (c1 + 1 + i) ≤ 1) then (bn (fX12_found 3 (Int32.ofNat (TK (c1 + 1 + i))) wM) fun w2 => oX12_procedure_487 rc (fm + n + 1) b4 b5 (Int32.ofNat (c1 + 1 + nf)) (Int32.ofNat (c1 + 1 + i + 1)) w2) else oX12_procedure_487 rc (fm + n + 1) b4 b5 (Int32.ofNat (c1 + 1 + nf)) (Int32.ofNat (c1 + 1 + i + 1)) wM) = oX12_procedure_487 rc (fm + n + 1) b4 b5 (Int32.ofNat (c1 + 1 + nf)) (Int32.ofNat (c1 + 1 + i + 1)) vM ∧ OFF (fun k j => k = 3 ∧ (j = 6 ∨ j = 7)) vA wA ∧ OFF (fun k j => k = 0 ∧ (j = 10 ∨ j = 11)) vM wM ∧ NTF wA wM vA vM ∧ (k = 0 → FLN (FLM vM) (wr (TK (c1 + 1 + i)) + 1)) := by
      by_cases q1 : c = 1
      · have hk : 1 ≤ k ∧ gi wM 25 (c1 + 1 + i) = 1 := by
          rcases b10 with ⟨x1, x2, x3⟩ | ⟨x1, x2, x3⟩ | ⟨x1, x2, x3⟩
          · omega
          · exact ⟨x2, x3⟩
          · omega
        refine ⟨wA, wM, if_pos (by rw [q1]; rfl), if_neg (fun h => ?_), OFF.rf, OFF.rf, Or.inl ⟨rfl, rfl⟩, fun h => by omega⟩
        rcases h with h | h
        · exact of_ne (n := k) (k := 0) (by omega) (by omega) (by omega) h
        · exact h (by rw [hk.2]; decide)
      · obtain ⟨u, u1, u2, u3⟩ := found_ok (num := 3) hJ.2.1 (a := TK (c1 + 1 + i)) (by omega)
        refine ⟨fX1_note (Int32.ofNat (TK (c1 + 1 + i))) 3 wA, u, if_neg (show ¬ (Int32.ofNat (c) = 1) from of_ne (n := c) (k := 1) (by omega) (by omega) q1), ?_, e_note, u3, Or.inr ⟨3, wr (TK (c1 + 1 + i)), by decide, hT.1 _, (note_ok hin.1 (by omega)).1, u2⟩, fun _ => by
          have h9 := hT.1 (TK (c1 + 1 + i))
          rw [u2]; exact FN_soon (by decide) (by omega) (by omega)⟩
        have hor : Int32.ofNat k = 0 ∨ ¬ (gi wM 25 (c1 + 1 + i) ≤ 1) := by
          rcases b10 with ⟨x1, x2, x3⟩ | ⟨x1, x2, x3⟩ | ⟨x1, x2, x3⟩
          · exact Or.inl (by rw [x2]; rfl)
          · omega
          · exact Or.inr (by rw [x3]; decide)
        rw [if_pos hor, u1, bn_so]
    obtain ⟨vA, vM, k1, k2, k3, k4, k5, k6⟩ := hnt
    have hmz : ∀ x, FLN (FLM wM) x → FLN (FLM vM) x := fun x hx => by
      rcases k5 with ⟨_, f2⟩ | ⟨num, y, f1, _, _, f4⟩
      · rw [f2]; exact hx
      · rw [f4]; exact hx.fn9 f1
    rw [k1, k2]
    have fA : ∀ k j', k ≠ 3 → gi vA k j' = gi wA k j' := fun k j' hk => (k3 k j' (by omega)).1
    have fM : ∀ k j', k ≠ 0 → gi vM k j' = gi wM k j' := fun k j' hk => (k4 k j' (by omega)).1
    have hst2 : STJ kd wr nm vv m z gA gM true sl c1 stk ((pn, 6 + o, q) :: prs1) C TK SL t d b fa vA vM := hst.upd (fun h => absurd h (by decide)) (fun _ => ⟨k3.mono fun k j hk => by unfold PAU; omega, k4.mono fun k j hk => by unfold PMU; omega, k5, fun l' hl' => fA 36 l' (by omega), by rw [fA 36 _ (by omega)]; exact htop.2.2.1, htop.2.2.2, by rw [fM 35 _ (by omega)]; exact hlv.2, htq.1, h29, Or.inl (fM 31 _ (by omega))⟩)
    rw [a_63 (by omega)]
    -- one word or two
    have hgo : ∀ w, (w = 1 ∨ w = 2) → (w = 1 ↔ gi vM 28 (c1 + 1 + i) = 1 ∨ gi vM 24 (c1 + 1 + i) = 2) → GLJ kd wr nm z gA gM wd true stkF fa B (bn (oX4_settle_10 (fo + n + 1) (Int32.ofNat (c1 + 1)) (Int32.ofNat 6) (Int32.ofNat (i + 1)) (fX8_place (Int32.ofNat (c1 + 2 + i)) (fX5_take (Int32.ofNat w) vA).1 (fX5_take (Int32.ofNat w) vA).2)) KA) (be (oX12_procedure_487 rc (fm + n + 1) b4 b5 (Int32.ofNat (c1 + 1 + nf)) (Int32.ofNat (c1 + 1 + i + 1)) vM) KM) S := fun w hw1 hw2 => by
      obtain ⟨g1, g2⟩ := J.take5 (a := w) hst2 (fun _ => by omega)
      have hpl : fX8_place (Int32.ofNat (c1 + 2 + i)) (fX5_take (Int32.ofNat w) vA).1 (fX5_take (Int32.ofNat w) vA).2 = si (fX5_take (Int32.ofNat w) vA).2 18 (c1 + 2 + i) (Int32.ofNat (6 + o)) := by
        unfold fX8_place
        rw [g2 rfl, rsi_iN (by omega) (by omega)]
        rfl
      rw [hpl]
      have ht5 : OFF PS6 (fX5_take (Int32.ofNat w) vA).2 vA := e_take5
      generalize (fX5_take (Int32.ofNat w) vA).2 = xA at g1 ht5 ⊢
      have htop2 := (g1.jl rfl).2.top
      have hlv2 := (g1.jl rfl).2.lev
      have hOA : OFF (fun k j' => k = 18 ∧ j' = c1 + 2 + i) (si xA 18 (c1 + 2 + i) (Int32.ofNat (6 + o))) xA := OFF.si ⟨rfl, rfl⟩
      have h18 : gi (si xA 18 (c1 + 2 + i) (Int32.ofNat (6 + o))) 18 (c1 + 2 + i) = Int32.ofNat (6 + o) := gi_si0 _ _ _ _
      generalize si xA 18 (c1 + 2 + i) (Int32.ofNat (6 + o)) = yA at hOA h18 ⊢
      have fY : ∀ k j', ¬ (k = 18 ∧ j' = c1 + 2 + i) → gi yA k j' = gi xA k j' := fun k j' hk => (hOA k j' hk).1
      have fX : ∀ k j', ¬ (PS6 k j') → gi xA k j' = gi vA k j' := fun k j' hk => (ht5 k j' hk).1
      have hst3 : STJ kd wr nm vv m z gA gM true sl c1 stk ((pn, 6 + (o + w), q) :: prs1) C TK SL t d b fa yA vM := g1.upd (fun h => absurd h (by decide)) (fun _ => ⟨hOA.mono fun k j hk => by unfold PAU; omega, OFF.rf, Or.inl ⟨by unfold FLA; rw [fY 3 6 (by omega), fY 3 7 (by omega)], rfl⟩, fun l' hl' => fY 36 l' (by omega), by rw [fY 36 _ (by omega), show 6 + (o + w) = 6 + o + w by omega]; exact htop2.2.2.1, by omega, hlv2.2, htq.1, fun i hi => by rw [fM 29 _ (by omega)]; exact h29 i hi, Or.inl rfl⟩)
      have hall : OFF (fun k j' => (k = 3 ∧ (j' = 6 ∨ j' = 7)) ∨ (k = 18 ∧ j' = c1 + 2 + i) ∨ PS6 k j') yA wA := OFF.tr (hOA.mono fun k j h => Or.inr (Or.inl h)) (OFF.tr (ht5.mono fun k j h => Or.inr (Or.inr h)) (k3.mono fun k j h => Or.inl h))
      refine ih (i + 1) (o + w) yA vM (by omega) hst3 (hdw.off (hall.mono fun k j hk => by unfold PS6 at hk; omega) (k4.mono fun k j hk => by omega) (NTF.exf k5 k4 (fun k j hk => by omega))) (fun j hj => ?_) ?_ (STEP.at2 hpf (hall.mono fun k j hk => by unfold PS6 at hk; unfold NQA2; omega) (k4.mono fun k j hk => by unfold NQM2; omega) hpf.1 hpf.2.1 (NTF.exf k5 k4 (fun k j hk => by omega))) (fun j hj h0 => by
        rw [fM 24 _ (by omega)] at h0
        rw [fM 22 _ (by omega)]
        by_cases q8 : j = i
        · rw [q8, b7] at h0
          rw [q8, b22, tc_iN (by omega)]
          exact k6 ((eq_iN (a := k) (b := 0) (by omega) (by omega)).mp h0)
        · exact hmz _ (hnz j (by omega) h0))
      · rw [(hall 16 _ (by unfold PS6; omega)).1, fM 28 _ (by omega), fM 24 _ (by omega)]
        exact hvc j hj
      · obtain ⟨f, f1, f2, f3⟩ := hsl2
        obtain ⟨g, hg1, hg2⟩ : ∃ g : Nat → Nat, (∀ j, j ≤ i → g j = f j) ∧ g (i + 1) = o + w := ⟨fun j => if j ≤ i then f j else o + w, fun j hj => if_pos hj, if_neg (by omega)⟩
        refine ⟨g, by rw [hg1 0 (by omega)]; exact f1, hg2, fun j hj => ?_⟩
        by_cases q8 : j = i
        · subst q8
          refine ⟨w, hw1, ?_, ?_, hw2⟩
          · rw [hg2, hg1 j (by omega), f2]
          · rw [hg1 j (by omega), f2]; exact h18
        · obtain ⟨w', w1, w2, w3, w4⟩ := f3 j (by omega)
          refine ⟨w', w1, ?_, ?_, ?_⟩
          · rw [hg1 _ (by omega), hg1 j (by omega)]; exact w2
          · rw [hg1 j (by omega), (hall 18 _ (by unfold PS6; omega)).1]; exact w3
          · rw [fM 28 _ (by omega), fM 24 _ (by omega)]; exact w4
    have h16 : gi vA 16 (c1 + 2 + i) = 2 ↔ gi vM 28 (c1 + 1 + i) = 1 := by
      rw [fA 16 _ (by omega), fM 28 _ (by omega)]
      rcases (hvc i (by omega)).1 with ⟨x1, x2 | ⟨_, k', y1, y2, _⟩⟩ | ⟨x1, x2, _⟩
      · rw [x1, x2]; exact ⟨fun h => absurd h (by decide), fun h => absurd h (by decide)⟩
      · omega
      · rw [x1, x2]; exact ⟨fun _ => rfl, fun _ => rfl⟩
    have h14 : gi vA 14 (c1 + 2 + i) = 2 ↔ gi vM 24 (c1 + 1 + i) = 2 := by
      rw [fA 14 _ (by omega), fM 24 _ (by omega), b8, b7]
    by_cases q1 : gi vA 16 (c1 + 2 + i) = 2 ∨ gi vA 14 (c1 + 2 + i) = 2
    · rw [if_pos q1]
      refine hgo 1 (by omega) ⟨fun _ => ?_, fun _ => rfl⟩
      rcases q1 with q | q
      · exact Or.inl (h16.mp q)
      · exact Or.inr (h14.mp q)
    · rw [if_neg q1]
      refine hgo 2 (by omega) ⟨fun h => absurd h (by omega), fun h => ?_⟩
      rcases h with q | q
      · exact absurd (Or.inl (h16.mpr q)) q1
      · exact absurd (Or.inr (h14.mpr q)) q1
end JT
