/-! BOTH SIDES: values and SPECS held against each other, slots -/
section JT
variable {kd wr nm : Nat → Nat} {vv : Nat → Int64} {m z : Nat} {gA gM : Wd} {lv : Bool} {sl us B : Nat} {stk obl stkF : List Nat} {prs : PRL} {C TK : Nat → Nat} {SL : Nat → List Nat} {t d b : Nat} {fa : Int32} {wA wM : Wd} {γ α : Type} {wd : γ → Wd} {S : γ → α → Wd → Prop} {P : (Nat → Nat) → Nat → Wd → Wd → Prop}
/-- how far a number may count from 0 -/
theorem cnt_ex (s : Int32) : ∃ N, N < 2147483648 ∧ s ≤ Int32.ofNat N ∧ ∀ k, k < N → ¬ s ≤ Int32.ofNat k := by
  refine ⟨s.toInt.toNat, ?_, ?_, fun k hk h => ?_⟩
  · have := Int32.toInt_lt s
    omega
  · have h1 := Int32.toInt_lt s
    rw [Int32.le_iff_toInt_le, Int32.toInt_ofNat_of_lt (by omega)]
    omega
  · have h1 := Int32.toInt_lt s
    rw [Int32.le_iff_toInt_le, Int32.toInt_ofNat_of_lt (by omega)] at h
    omega
theorem FU_gt {k : Nat} (h : k ≤ 2147483648) : ∃ f, FU = f + k + 1 := ⟨FU - k - 1, by unfold FU; omega⟩
/-- the class's look, whatever there is -/
theorem fnd_tot (a1 x : Int32) (w : Wd) : ∃ y, fX8_formalNamed a1 x w = some (y, w) := by
  obtain ⟨N, hN, h1, h2⟩ := cnt_ex (fX8_size_ a1 w)
  obtain ⟨fo, hfo⟩ := FU_gt (k := N) (by omega)
  unfold fX8_formalNamed
  rw [hfo]
  have : ∀ n i, i + n = N → ∃ y, oX8_formalNamed_2 (fo + n + 1) a1 x (Int32.ofNat i) w = some (y, w) := by
    intro n
    induction n with
    | zero =>
      intro i hi
      refine ⟨0, ?_⟩
      show fX8_formalNamed_2 (oX8_formalNamed_2 (fo + 0)) a1 x (Int32.ofNat i) w = _
      unfold fX8_formalNamed_2
      rw [ltq, if_pos (by rw [show i = N by omega]; exact h1)]
    | succ n ih =>
      intro i hi
      show ∃ y, fX8_formalNamed_2 (oX8_formalNamed_2 (fo + (n + 1))) a1 x (Int32.ofNat i) w = some (y, w)
      unfold fX8_formalNamed_2
      rw [ltq, if_neg (h2 i (by omega)), ltq, ltq]
      by_cases q : fX8_name (fX8_formal a1 (Int32.ofNat i) w) w = x
      · rw [if_pos q]
        exact ⟨_, rfl⟩
      · rw [if_neg q, ltq, ad1_iN]
        exact ih (i + 1) (by omega)
  exact this N 0 (by omega)
theorem chk_tot (a1 x : Int32) (w : Wd) : ∃ u, fX4_checkValue a1 x w = some u ∧ OFF PAN u w := by
  unfold fX4_checkValue
  obtain ⟨y, hy⟩ := fnd_tot a1 (fX9_nameOf x w) w
  rw [ltq, hy, bn2_so]
  by_cases q : y = 0
  · rw [if_pos q]
    exact ⟨w, rfl, OFF.rf⟩
  · rw [if_neg q, ltq]
    by_cases q1 : fX8_sort y w = 1
    · rw [if_pos q1]
      exact ⟨w, rfl, OFF.rf⟩
    · rw [if_neg q1]
      exact ⟨_, rfl, OFF.tr (OFF.rsi (fun _ => by unfold PAN; omega) : OFF PAN (fX8_how y 3 (fX1_note x 3 w)) _) (e_note.mono fun k j h => by unfold PAN; omega)⟩
/-- what settling may change -/
def PST (k j : Nat) : Prop := (k = 3 ∧ (j = 6 ∨ j = 7)) ∨ k = 18 ∨ k = 36 ∨ k = 37 ∨ k = 39
theorem set_tot (a1 : Int32) (w : Wd) : ∃ u, fX4_settle a1 w = some u ∧ OFF PST u w := by
  obtain ⟨N, hN, h1, h2⟩ := cnt_ex (fX8_size_ a1 w)
  obtain ⟨fo, hfo⟩ := FU_gt (k := N) (by omega)
  unfold fX4_settle
  rw [hfo, ltq]
  have hs : ∀ u, OFF PST u w → fX8_size_ a1 u = fX8_size_ a1 w := fun u hu => by
    unfold fX8_size_ rgi
    rw [ltq, ltq]
    split
    · exact (hu 19 _ (by unfold PST; omega)).1
    · rfl
  have : ∀ n i u, i + n = N → OFF PST u w → ∃ v, oX4_settle_10 (fo + n + 1) a1 (fX5_slot w) (Int32.ofNat i) u = some v ∧ OFF PST v w := by
    intro n
    induction n with
    | zero =>
      intro i u hi hu
      show ∃ v, fX4_settle_10 (oX4_settle_10 (fo + 0)) a1 (fX5_slot w) (Int32.ofNat i) u = some v ∧ _
      unfold fX4_settle_10
      rw [ltq, hs u hu, if_pos (by rw [show i = N by omega]; exact h1)]
      exact ⟨_, rfl, OFF.tr (OFF.rsi (fun _ => by unfold PST; omega) : OFF PST (fX8_place a1 _ u) u) hu⟩
    | succ n ih =>
      intro i u hi hu
      show ∃ v, fX4_settle_10 (oX4_settle_10 (fo + (n + 1))) a1 (fX5_slot w) (Int32.ofNat i) u = some v ∧ _
      unfold fX4_settle_10
      rw [ltq, hs u hu, if_neg (h2 i (by omega)), ltq, ltq]
      have h93 : ∀ (s0 : Bool) (x5 : Int32) (u' : Wd), OFF PST u' w → ∃ v, fX4_settle_93 (oX4_settle_10 (fo + n + 1)) s0 a1 (fX5_slot w) (Int32.ofNat i) x5 u' = some v ∧ OFF PST v w := fun s0 x5 u' hu' => by
        have hp : ∀ a : Int32, OFF PST (fX8_place x5 (fX5_take a u').1 (fX5_take a u').2) w := fun a => OFF.tr (OFF.rsi (fun _ => by unfold PST; omega) : OFF PST (fX8_place x5 _ (fX5_take a u').2) _) (OFF.tr (e_take5.mono fun k j h => by unfold PS6 at h; unfold PST; omega) hu')
        unfold fX4_settle_93
        cases s0
        · rw [if_neg (by decide), lt2q, ltq, ltq, ad1_iN]
          exact ih (i + 1) _ (by omega) (hp 2)
        · rw [if_pos rfl, lt2q, ltq, ltq, ad1_iN]
          exact ih (i + 1) _ (by omega) (hp 1)
      have h63 : ∀ (x5 : Int32) (u' : Wd), OFF PST u' w → ∃ v, fX4_settle_63 (oX4_settle_10 (fo + n + 1)) a1 (fX5_slot w) (Int32.ofNat i) x5 u' = some v ∧ OFF PST v w := fun x5 u' hu' => by
        unfold fX4_settle_63
        rw [ltq, ltq]
        split
        · exact h93 _ _ _ hu'
        · split
          · exact h93 _ _ _ hu'
          · exact h93 _ _ _ hu'
      split
      · exact h63 _ _ hu
      · rw [ltq, ltq]
        exact h63 _ _ (OFF.tr (e_note.mono fun k j h => Or.inl h) hu)
  exact this N 0 w (by omega) OFF.rf
theorem h148_tot {nv : Nat} (a2 a5 : Int32) (w : Wd) (hn : nv ≤ 9000) {fo : Nat} : ∃ u, oX4_heading_148 (fo + 9001) a2 a5 (Int32.ofNat nv) 0 w = some u ∧ OFF PAN u w := by
  have : ∀ (fo n i : Nat) (u : Wd), i + n = nv → OFF PAN u w → ∃ v, oX4_heading_148 (fo + n + 1) a2 a5 (Int32.ofNat nv) (Int32.ofNat i) u = some v ∧ OFF PAN v w := by
    intro fo n
    induction n with
    | zero =>
      intro i u hi hu
      show ∃ v, fX4_heading_148 (oX4_heading_148 (fo + 0)) a2 a5 (Int32.ofNat nv) (Int32.ofNat i) u = some v ∧ _
      unfold fX4_heading_148
      obtain ⟨v, v1, v2⟩ := set_tot a2 u
      rw [if_pos (ofle (by omega) (by omega)), v1, bn_so]
      exact ⟨_, rfl, OFF.tr (OFF.rsi (fun _ => by unfold PAN; omega) : OFF PAN (fX8_body_ a2 _ v) v) (OFF.tr (v2.mono fun k j h => by unfold PST at h; unfold PAN; omega) hu)⟩
    | succ n ih =>
      intro i u hi hu
      show ∃ v, fX4_heading_148 (oX4_heading_148 (fo + (n + 1))) a2 a5 (Int32.ofNat nv) (Int32.ofNat i) u = some v ∧ _
      unfold fX4_heading_148
      obtain ⟨v, v1, v2⟩ := chk_tot a2 (a5 + 1 + 2 * Int32.ofNat i) u
      rw [if_neg (nle_iN (by omega) (by omega)), v1, bn_so, ltq, ad1_iN]
      exact ih (i + 1) v (by omega) (OFF.tr v2 hu)
  obtain ⟨v, v1, v2⟩ := this (fo + 9000 - nv) nv 0 w (by omega) OFF.rf
  rw [show fo + 9000 - nv + nv + 1 = fo + 9001 by omega] at v1
  exact ⟨v, v1, v2⟩
end JT
section JT
variable {kd wr nm : Nat → Nat} {vv : Nat → Int64} {m z : Nat} {gA gM : Wd} {lv : Bool} {sl us B : Nat} {stk obl stkF : List Nat} {prs : PRL} {C TK : Nat → Nat} {SL : Nat → List Nat} {t d b : Nat} {fa : Int32} {wA wM : Wd} {γ α : Type} {wd : γ → Wd} {S : γ → α → Wd → Prop} {P : (Nat → Nat) → Nat → Wd → Wd → Prop}
/-- a formal, but for how it's handed over -/
def FMW (kd TK : Nat → Nat) (c1 pn sf l cb t i : Nat) (fA fM : Wd) : Prop := kd (TK (c1 + 1 + i)) = 2 ∧ TK (c1 + 1 + i) < t ∧ FM0 (TK (c1 + 1 + i)) (c1 + 1 + i) i pn sf l fA fM ∧ FM2 (c1 + 1 + i) cb fA fM
def HDW (kd TK : Nat → Nat) (c1 pn p sp sf l ty tok nf cb : Nat) (C : Nat → Nat) (t : Nat) (wA wM : Wd) : Prop :=
  C 1 = c1 + 1 + nf ∧ pn < C 4 ∧ tok < t ∧ HD0 c1 pn p sp sf l ty tok wA wM ∧ (gi wA 19 (c1 + 1) = Int32.ofNat nf ∧ gi wA 20 (c1 + 1) = Int32.ofNat (c1 + 2) ∧ gi wM 31 pn = Int32.ofNat nf) ∧ ∀ i, i < nf → FMW kd TK c1 pn sf (l + 1) cb t i wA wM
theorem HDW.off {c1 pn p sp sf l ty tok nf cb : Nat} {uA uM : Wd} (h : HDW kd TK c1 pn p sp sf l ty tok nf cb C t wA wM) (hA : OFF (fun k j => k = 3 ∨ k = 16 ∧ c1 + 2 ≤ j ∨ k = 18 ∨ k = 36 ∨ k = 37 ∨ k = 39 ∨ (k = 24 ∧ j = c1 + 1)) uA wA) (hM : OFF (fun k j => k = 0 ∨ k = 28) uM wM) (hE : EXF wM uM) : HDW kd TK c1 pn p sp sf l ty tok nf cb C t uA uM := by
  obtain ⟨a1, a2, a3, a4, ⟨a5, a6, a7⟩, a8⟩ := h
  have fA : ∀ k j', ¬ (k = 3 ∨ k = 16 ∧ c1 + 2 ≤ j' ∨ k = 18 ∨ k = 36 ∨ k = 37 ∨ k = 39 ∨ (k = 24 ∧ j' = c1 + 1)) → gi uA k j' = gi wA k j' := fun k j' hk => (hA k j' hk).1
  have fM : ∀ k j', ¬ (k = 0 ∨ k = 28) → gi uM k j' = gi wM k j' := fun k j' hk => (hM k j' hk).1
  refine ⟨a1, a2, a3, a4.agr (fun k hk => fA k _ (by omega)) (fA 25 _ (by omega)) (fun k hk => fM k _ (by omega)) (fun k hk => fM k _ (by omega)) hE, ⟨by rw [fA 19 _ (by omega)]; exact a5, by rw [fA 20 _ (by omega)]; exact a6, by rw [fM 31 _ (by omega)]; exact a7⟩, fun i hi => ?_⟩
  obtain ⟨b1, b2, b3, b4⟩ := a8 i hi
  exact ⟨b1, b2, b3.agr (fun k hk => fA k _ (by omega)) (fA 25 _ (by omega)) (fun k hk => fM k _ (by omega)) hE, b4.agr (Nat.le_refl _) (fun k hk => fA k _ (by omega)) (fun k hk => fM k _ (by omega))⟩
/-- values held against SPECS up to the i-th -/
def VCI (nm TK : Nat → Nat) (c1 nf v0 nv i : Nat) (fA fM : Wd) : Prop := ∀ j, j < nf → ((gi fM 28 (c1 + 1 + j) = 0 ∧ (gi fA 16 (c1 + 2 + j) = 3 ∨ gi fA 16 (c1 + 2 + j) = 2 ∧ ∃ k, i ≤ k ∧ k < nv ∧ mtF nm TK c1 nf (v0 + 2 * k) = some j)) ∨ (gi fM 28 (c1 + 1 + j) = 1 ∧ gi fA 16 (c1 + 2 + j) = 2 ∧ gi fM 24 (c1 + 1 + j) = 1)) ∧ ∀ k, i ≤ k → k < nv → mtF nm TK c1 nf (v0 + 2 * k) = some j → gi fM 24 (c1 + 1 + j) = 1 → gi fA 16 (c1 + 2 + j) = 2
theorem mul2_iN (a : Nat) : (2 : Int32) * Int32.ofNat a = Int32.ofNat (2 * a) := (Int32.ofNat_mul 2 a).symm
theorem a_h148 {n i nv v0 : Nat} {a2 a5 : Int32} {w : Wd} {K : Wd → Option γ} (h5 : a5 + 1 = Int32.ofNat v0) (hi : i < nv) (hn : nv ≤ 9000) : bn (oX4_heading_148 (n + 1) a2 a5 (Int32.ofNat nv) (Int32.ofNat i) w) K = bn (fX4_checkValue a2 (Int32.ofNat (v0 + 2 * i)) w) fun u => bn (oX4_heading_148 n a2 a5 (Int32.ofNat nv) (Int32.ofNat (i + 1)) u) K := by
  show bn (fX4_heading_148 (oX4_heading_148 n) a2 a5 (Int32.ofNat nv) (Int32.ofNat i) w) K = _
  unfold fX4_heading_148
  have e : a5 + 1 + 2 * Int32.ofNat i = Int32.ofNat (v0 + 2 * i) := by
    rw [h5, mul2_iN, add_iN]
  rw [if_neg (nle_iN (by omega) (by omega)), bn_bn, e, ad1_iN]
  rfl
theorem a_h148e {n nv : Nat} {a2 a5 : Int32} {w : Wd} {K : Wd → Option γ} (hn : nv ≤ 9000) : bn (oX4_heading_148 (n + 1) a2 a5 (Int32.ofNat nv) (Int32.ofNat nv) w) K = bn (fX4_settle a2 w) fun w2 => K (fX8_body_ a2 (gi w2 4 9) w2) := by
  show bn (fX4_heading_148 (oX4_heading_148 n) a2 a5 (Int32.ofNat nv) (Int32.ofNat nv) w) K = _
  unfold fX4_heading_148
  rw [if_pos (ofle (Nat.le_refl _) (by omega)), bn_bn]
  rfl
theorem vck_loop (hT : TOKS kd wr nm vv m z gA gM) {c1 pn p sp sf l ty0 tok nf v0 nv ve q t0 : Nat} {prs1 prs0 : PRL} {stk0 : List Nat} {C0 : Nat → Nat} {wA0 wM0 : Wd} {KA : Wd → Option γ} {KM : Int32 → Wd → Option (Option α × Wd)} {rc : TX12_block} {a5 b4 b5 : Int32} (h5 : 0 < nv → a5 + 1 = Int32.ofNat v0) (hve : ve < 8194 ∧ ve ≤ v0 + 2 * nv ∧ ∀ i, i < nv → v0 + 2 * i < ve ∧ v0 + 2 * i < t ∧ kd (v0 + 2 * i) = 2) (hv0 : v0 + 2 * nv ≤ 9000) (hlen : prs1.length = l + 1) (hc01 : C0 1 ≤ c1) (hsl : sl ≤ 1)
    (HX : ∀ uA uM, STJ kd wr nm vv m z gA gM true sl c1 stk ((pn, 6, q) :: prs1) C TK SL t d b fa uA uM → HDW kd TK c1 pn p sp sf l ty0 tok nf t C t uA uM → VCI nm TK c1 nf v0 nv nv uA uM → PF C0 t0 stk0 prs0 obl wA0 wM0 C t uA uM → GLJ kd wr nm z gA gM wd true stkF fa B (bn (fX4_settle (Int32.ofNat (c1 + 1)) uA) fun w2 => KA (fX8_body_ (Int32.ofNat (c1 + 1)) (gi w2 4 9) w2)) (be (oX12_procedure_487 rc FU b4 b5 (Int32.ofNat (c1 + 1 + nf)) (Int32.ofNat (c1 + 1)) uM) KM) S)
    {fo fm : Nat} : ∀ (n i : Nat) (wA wM : Wd), i + n = nv → STJ kd wr nm vv m z gA gM true sl c1 stk ((pn, 6, q) :: prs1) C TK SL t d b fa wA wM → HDW kd TK c1 pn p sp sf l ty0 tok nf t C t wA wM → VCI nm TK c1 nf v0 nv i wA wM → PF C0 t0 stk0 prs0 obl wA0 wM0 C t wA wM →
      GLJ kd wr nm z gA gM wd true stkF fa B (bn (oX4_heading_148 (fo + n + 1) (Int32.ofNat (c1 + 1)) a5 (Int32.ofNat nv) (Int32.ofNat i) (pnd wr (pnL (mtF nm TK c1 nf) v0 n i) wA)) KA) (be (oX12_procedure_414 rc (fm + n + 1) b4 b5 (Int32.ofNat (c1 + 1 + nf)) (Int32.ofNat ve) (Int32.ofNat (v0 + 2 * i)) wM) KM) S := by
  intro n
  induction n with
  | zero =>
    intro i wA wM hi hst hdw hvc hpf
    have hi' : i = nv := by omega
    subst hi'
    have hJ := (hst.jl rfl).2
    have htq := hJ.topq
    have hcc := hJ.2.2.2.2.2.1
    have hwt := hT.1 t
    show GLJ kd wr nm z gA gM wd true stkF fa B (bn (oX4_heading_148 (fo + 0 + 1) (Int32.ofNat (c1 + 1)) a5 (Int32.ofNat i) (Int32.ofNat i) (pnd wr [] wA)) KA) (be (fX12_procedure_414 rc (oX12_procedure_414 rc (fm + 0)) b4 b5 (Int32.ofNat (c1 + 1 + nf)) (Int32.ofNat ve) (Int32.ofNat (v0 + 2 * i)) wM) KM) S
    rw [pnd_nil, a_h148e (by omega)]
    have e : be (fX12_procedure_414 rc (oX12_procedure_414 rc (fm + 0)) b4 b5 (Int32.ofNat (c1 + 1 + nf)) (Int32.ofNat ve) (Int32.ofNat (v0 + 2 * i)) wM) KM = be (oX12_procedure_487 rc FU b4 b5 (Int32.ofNat (c1 + 1 + nf)) (Int32.ofNat (c1 + 1)) wM) KM := by
      unfold fX12_procedure_414
      generalize FU = N
      rw [if_pos (ofle hve.2.1 (by omega)), htq.2.1, if_pos (inb_iN (by omega) (by omega)), tc_iN (by omega), ltq, hdw.2.2.2.1.2.2.2.2.1]
    rw [e]
    exact HX wA wM hst hdw hvc hpf
  | succ n ih =>
    intro i wA wM hi hst hdw hvc hpf
    have hJ := (hst.jl rfl).2
    have hin := hst.in1
    have htq := hJ.topq
    have hcc := hJ.2.2.2.2.2.1
    have hwt := hT.1 t
    have hz2 := hT.2.2.1
    have hz3 := hT.2.2.2.1
    have htm := hJ.2.1.2.1
    have htop := hJ.top
    have hlv := hJ.lev
    obtain ⟨hv1, hv2, hv3⟩ := hve.2.2 i (by omega)
    have hc1 := hdw.1
    have hc4 : c1 + 1 + nf ≤ 4100 := by omega
    rw [show fo + (n + 1) + 1 = (fo + n + 1) + 1 by omega, show fm + (n + 1) + 1 = (fm + n + 1) + 1 by omega, a_h148 (h5 (by omega)) (by omega) (by omega)]
    obtain ⟨e1, e2⟩ := a_lookX (L := pnL (mtF nm TK c1 nf) v0 (n + 1) i) hJ hT hdw.1 hdw.2.2.2.1 hdw.2.2.2.2.1.1 hdw.2.2.2.2.1.2.1 (by omega) hc4 (v := v0 + 2 * i) (by omega) hv3
    have e3 := m_lookX hJ hT hdw.1 hdw.2.2.2.1 hc4 htq.2.1 (by omega) (v := v0 + 2 * i) (by omega) hv3
    have hwh : fX9_where (Int32.ofNat (v0 + 2 * i)) wA = Int32.ofNat (wr (v0 + 2 * i)) := a_where hin.1 (by omega)
    have h29 : ∀ i, i < c1 → gi wM 29 pn ≠ Int32.ofNat i := fun i hi => by
      rw [hdw.2.2.2.1.2.2.1]
      exact of_ne (by omega) (by omega) (by omega)
    have hA0 : fX4_checkValue (Int32.ofNat (c1 + 1)) (Int32.ofNat (v0 + 2 * i)) (pnd wr (pnL (mtF nm TK c1 nf) v0 (n + 1) i) wA) = (if lk9 0 (c1 + 2) (mtF nm TK c1 nf (v0 + 2 * i)) = 0 then some (pnd wr (pnL (mtF nm TK c1 nf) v0 (n + 1) i) wA) else if fX8_sort (lk9 0 (c1 + 2) (mtF nm TK c1 nf (v0 + 2 * i))) (pnd wr (pnL (mtF nm TK c1 nf) v0 (n + 1) i) wA) = 1 then some (pnd wr (pnL (mtF nm TK c1 nf) v0 (n + 1) i) wA) else some (fX8_how (lk9 0 (c1 + 2) (mtF nm TK c1 nf (v0 + 2 * i))) 3 (fX1_note (Int32.ofNat (v0 + 2 * i)) 3 (pnd wr (pnL (mtF nm TK c1 nf) v0 (n + 1) i) wA)))) := by
      unfold fX4_checkValue
      rw [ltq, e1, e2]
      rfl
    have hM0 : be (oX12_procedure_414 rc ((fm + n + 1) + 1) b4 b5 (Int32.ofNat (c1 + 1 + nf)) (Int32.ofNat ve) (Int32.ofNat (v0 + 2 * i)) wM) KM = be (if lk9 (-1) (c1 + 1) (mtF nm TK c1 nf (v0 + 2 * i)) < 0 then (bn (fX12_found 3 (Int32.ofNat (v0 + 2 * i)) wM) fun w8 => oX12_procedure_414 rc (fm + n + 1) b4 b5 (Int32.ofNat (c1 + 1 + nf)) (Int32.ofNat ve) (Int32.ofNat (v0 + 2 * (i + 1))) w8) else (if inb (lk9 (-1) (c1 + 1) (mtF nm TK c1 nf (v0 + 2 * i))) 5000 = true then if (gi wM 24 (Int32.toNatClampNeg (lk9 (-1) (c1 + 1) (mtF nm TK c1 nf (v0 + 2 * i))))) = 1 then (if inb (lk9 (-1) (c1 + 1) (mtF nm TK c1 nf (v0 + 2 * i))) 5000 = true then oX12_procedure_414 rc (fm + n + 1) b4 b5 (Int32.ofNat (c1 + 1 + nf)) (Int32.ofNat ve) (Int32.ofNat (v0 + 2 * (i + 1))) (si wM 28 (Int32.toNatClampNeg (lk9 (-1) (c1 + 1) (mtF nm TK c1 nf (v0 + 2 * i)))) 1) else none) else (bn (fX12_found 3 (Int32.ofNat (v0 + 2 * i)) wM) fun w15 => oX12_procedure_414 rc (fm + n + 1) b4 b5 (Int32.ofNat (c1 + 1 + nf)) (Int32.ofNat ve) (Int32.ofNat (v0 + 2 * (i + 1))) w15) else none)) KM := by
      show be (fX12_procedure_414 rc (oX12_procedure_414 rc (fm + n + 1)) b4 b5 (Int32.ofNat (c1 + 1 + nf)) (Int32.ofNat ve) (Int32.ofNat (v0 + 2 * i)) wM) KM = _
      unfold fX12_procedure_414
      generalize FU = N
      rw [if_neg (nle_iN hv1 (by omega)), if_pos (inb_iN (by omega) (by omega)), tc_iN (by omega), e3, bn2_so, show Int32.ofNat (v0 + 2 * i) + 2 = Int32.ofNat (v0 + 2 * (i + 1)) by rw [show (2 : Int32) = Int32.ofNat 2 from rfl, add_iN]; congr 1]
      rfl
    rw [hA0, hM0]
    rcases hm : mtF nm TK c1 nf (v0 + 2 * i) with _ | j
    · -- no formal
      have hL : pnL (mtF nm TK c1 nf) v0 (n + 1) i = pnL (mtF nm TK c1 nf) v0 n (i + 1) ++ [v0 + 2 * i] := by
        show pnL (mtF nm TK c1 nf) v0 n (i + 1) ++ (if mtF nm TK c1 nf (v0 + 2 * i) = none then [v0 + 2 * i] else []) = _
        rw [hm, if_pos rfl]
      obtain ⟨u, u1, u2, u3⟩ := found_ok (num := 3) hJ.2.1 (a := v0 + 2 * i) (by omega)
      rw [if_pos (show lk9 0 (c1 + 2) none = 0 from rfl), if_pos (show lk9 (-1) (c1 + 1) none < 0 from (show (-1 : Int32) < 0 by decide)), bn_so, hL, pnd_take, u1, bn_so]
      have hOA : OFF (fun k j => k = 3 ∧ (j = 6 ∨ j = 7)) (fl (FN (FLA wA) 3 (Int32.ofNat (wr (v0 + 2 * i)))) wA) wA := OFF.tr (OFF.si ⟨rfl, Or.inr rfl⟩) (OFF.si ⟨rfl, Or.inl rfl⟩)
      have hFA : FLA (fl (FN (FLA wA) 3 (Int32.ofNat (wr (v0 + 2 * i)))) wA) = FN (FLA wA) 3 (Int32.ofNat (wr (v0 + 2 * i))) := FLA_fl
      generalize fl (FN (FLA wA) 3 (Int32.ofNat (wr (v0 + 2 * i)))) wA = vA at hOA hFA ⊢
      have fA : ∀ k j', k ≠ 3 → gi vA k j' = gi wA k j' := fun k j' hk => (hOA k j' (by omega)).1
      have fM : ∀ k j', k ≠ 0 → gi u k j' = gi wM k j' := fun k j' hk => (u3 k j' (by omega)).1
      refine ih (i + 1) vA u (by omega) (hst.upd (fun h => absurd h (by decide)) (fun _ => ⟨hOA.mono fun k j hk => by unfold PAU; omega, u3.mono fun k j hk => by unfold PMU; omega, Or.inr ⟨3, wr (v0 + 2 * i), by decide, hT.1 _, hFA, u2⟩, fun l' hl' => fA 36 l' (by omega), by rw [fA 36 _ (by omega)]; exact htop.2.2.1, htop.2.2.2, by rw [fM 35 _ (by omega)]; exact hlv.2, htq.1, h29, Or.inl (fM 31 _ (by omega))⟩)) (hdw.off (hOA.mono fun k j hk => by omega) (u3.mono fun k j hk => by omega) (EXF.fn u3 (fun k j hk => by omega) u2 (by decide))) (fun j hj => ?_) (STEP.at2 hpf (hOA.mono fun k j hk => by unfold NQA2; omega) (u3.mono fun k j hk => by unfold NQM2; omega) hpf.1 hpf.2.1 (EXF.fn u3 (fun k j hk => by omega) u2 (by decide)))
      obtain ⟨c1', c2'⟩ := hvc j hj
      rw [fA 16 _ (by omega), fM 28 _ (by omega), fM 24 _ (by omega)]
      refine ⟨?_, fun k k1 k2 k3 => c2' k (by omega) k2 k3⟩
      rcases c1' with ⟨x1, x2 | ⟨x2, k, k1, k2, k3⟩⟩ | x
      · exact Or.inl ⟨x1, Or.inl x2⟩
      · refine Or.inl ⟨x1, Or.inr ⟨x2, k, ?_, k2, k3⟩⟩
        by_cases q9 : k = i
        · rw [q9, hm] at k3; exact absurd k3 (by simp)
        · omega
      · exact Or.inr x
    · have hj' := (fst9_ok _ _ _ hm).2.1
      have hj : j < nf := by omega
      have hL : pnL (mtF nm TK c1 nf) v0 (n + 1) i = pnL (mtF nm TK c1 nf) v0 n (i + 1) := by
        show pnL (mtF nm TK c1 nf) v0 n (i + 1) ++ (if mtF nm TK c1 nf (v0 + 2 * i) = none then [v0 + 2 * i] else []) = _
        rw [hm, if_neg (by simp), List.append_nil]
      obtain ⟨b1, b2, b3, b4', k, c, b5', b6, b7, b8, b9, b10⟩ := hdw.2.2.2.2.2 j hj
      have b8' : gi wA 14 (c1 + 2 + j) = Int32.ofNat k := by rw [show c1 + 2 + j = c1 + 1 + j + 1 by omega]; exact b8
      have hsort : fX8_sort (lk9 0 (c1 + 2) (some j)) (pnd wr (pnL (mtF nm TK c1 nf) v0 (n + 1) i) wA) = Int32.ofNat k := by
        show fX8_sort (Int32.ofNat (c1 + 2 + j)) _ = _
        unfold fX8_sort
        rw [ltq, rgi_iN (by omega) (by omega), (pnd_off 14 _ (by omega)).1]
        exact b8'
      rw [if_neg (show ¬ (lk9 0 (c1 + 2) (some j) = 0) from of_ne (n := c1 + 2 + j) (k := 0) (by omega) (by omega) (by omega)), hsort, hL]
      have h0 : ¬ (lk9 (-1) (c1 + 1) (some j) < 0) := by
        show ¬ (Int32.ofNat (c1 + 1 + j) < Int32.ofNat 0)
        intro h
        have := Int32.lt_iff_toInt_lt.mp h
        rw [Int32.toInt_ofNat_of_lt (by omega), Int32.toInt_ofNat_of_lt (by omega)] at this
        omega
      rw [if_neg h0, show lk9 (-1) (c1 + 1) (some j) = Int32.ofNat (c1 + 1 + j) from rfl, if_pos (inb_iN (by omega) (by omega)), tc_iN (by omega), b7, show lk9 0 (c1 + 2) (some j) = Int32.ofNat (c1 + 2 + j) from rfl]
      by_cases k1 : k = 1
      · rw [if_pos (show Int32.ofNat k = 1 by rw [k1]; rfl), if_pos (show Int32.ofNat k = 1 by rw [k1]; rfl), if_pos (inb_iN (by omega) (by omega)), bn_so]
        have fM : ∀ k j', ¬ (k = 28 ∧ j' = c1 + 1 + j) → gi (si wM 28 (c1 + 1 + j) 1) k j' = gi wM k j' := fun k j' hk => gi_si1 (by omega)
        have hOM : OFF (fun k j' => k = 28 ∧ j' = c1 + 1 + j) (si wM 28 (c1 + 1 + j) 1) wM := OFF.si ⟨rfl, rfl⟩
        refine ih (i + 1) wA (si wM 28 (c1 + 1 + j) 1) (by omega) (hst.upd (fun h => absurd h (by decide)) (fun _ => ⟨OFF.rf, hOM.mono fun k j hk => by unfold PMU; omega, Or.inl ⟨rfl, by unfold FLM; rw [fM 0 10 (by omega), fM 0 11 (by omega)]⟩, fun l' hl' => rfl, htop.2.2.1, htop.2.2.2, by rw [fM 35 _ (by omega)]; exact hlv.2, htq.1, h29, Or.inl (fM 31 _ (by omega))⟩)) (hdw.off OFF.rf (hOM.mono fun k j hk => by omega) (EXF.off hOM (fun k j hk => by omega))) (fun j2 hj2 => ?_) (STEP.at2 hpf OFF.rf (hOM.mono fun k j hk => by unfold NQM2; have := hpf.1 1; omega) hpf.1 hpf.2.1 (EXF.off hOM (fun k j hk => by omega)))
        obtain ⟨c1', c2'⟩ := hvc j2 hj2
        rw [fM 24 _ (by omega)]
        refine ⟨?_, fun k k1 k2 k3 => c2' k (by omega) k2 k3⟩
        by_cases q8 : j2 = j
        · rw [q8, gi_si0]
          rw [q8] at c2'
          exact Or.inr ⟨rfl, c2' i (Nat.le_refl _) (by omega) hm (by rw [b7, k1]; rfl), by rw [b7, k1]; rfl⟩
        · rw [fM 28 _ (by omega)]
          rcases c1' with ⟨x1, x2 | ⟨x2, k, k1, k2, k3⟩⟩ | x
          · exact Or.inl ⟨x1, Or.inl x2⟩
          · refine Or.inl ⟨x1, Or.inr ⟨x2, k, ?_, k2, k3⟩⟩
            by_cases q9 : k = i
            · rw [q9, hm] at k3; exact absurd (Option.some.inj k3).symm q8
            · omega
          · exact Or.inr x
      · have hne : ¬ (Int32.ofNat k = 1) := of_ne (n := k) (k := 1) (by omega) (by omega) k1
        obtain ⟨u, u1, u2, u3⟩ := found_ok (num := 3) hJ.2.1 (a := v0 + 2 * i) (by omega)
        rw [if_neg hne, if_neg hne, bn_so, u1, bn_so, pnd_now (by decide) hwh]
        have hhow : fX8_how (Int32.ofNat (c1 + 2 + j)) 3 (pnd wr (pnL (mtF nm TK c1 nf) v0 n (i + 1)) (fX1_note (Int32.ofNat (v0 + 2 * i)) 3 wA)) = pnd wr (pnL (mtF nm TK c1 nf) v0 n (i + 1)) (si (fX1_note (Int32.ofNat (v0 + 2 * i)) 3 wA) 16 (c1 + 2 + j) 3) := by
          unfold fX8_how
          rw [ltq, rsi_iN (by omega) (by omega), pnd_si (by omega)]
        rw [hhow]
        have hOA : OFF (fun k j' => (k = 3 ∧ (j' = 6 ∨ j' = 7)) ∨ (k = 16 ∧ j' = c1 + 2 + j)) (si (fX1_note (Int32.ofNat (v0 + 2 * i)) 3 wA) 16 (c1 + 2 + j) 3) wA := OFF.tr (OFF.si (Or.inr ⟨rfl, rfl⟩)) (e_note.mono fun k j h => Or.inl h)
        have hFA : FLA (si (fX1_note (Int32.ofNat (v0 + 2 * i)) 3 wA) 16 (c1 + 2 + j) 3) = FN (FLA wA) 3 (Int32.ofNat (wr (v0 + 2 * i))) := by
          have : FLA (si (fX1_note (Int32.ofNat (v0 + 2 * i)) 3 wA) 16 (c1 + 2 + j) 3) = FLA (fX1_note (Int32.ofNat (v0 + 2 * i)) 3 wA) := by
            unfold FLA
            rw [gi_si1 (by omega), gi_si1 (by omega)]
          rw [this]
          exact (note_ok hin.1 (by omega)).1
        have h16 : gi (si (fX1_note (Int32.ofNat (v0 + 2 * i)) 3 wA) 16 (c1 + 2 + j) 3) 16 (c1 + 2 + j) = 3 := gi_si0 _ _ _ _
        generalize si (fX1_note (Int32.ofNat (v0 + 2 * i)) 3 wA) 16 (c1 + 2 + j) 3 = vA at hOA hFA h16 ⊢
        have fA : ∀ k j', ¬ ((k = 3 ∧ (j' = 6 ∨ j' = 7)) ∨ (k = 16 ∧ j' = c1 + 2 + j)) → gi vA k j' = gi wA k j' := fun k j' hk => (hOA k j' hk).1
        have fM : ∀ k j', k ≠ 0 → gi u k j' = gi wM k j' := fun k j' hk => (u3 k j' (by omega)).1
        refine ih (i + 1) vA u (by omega) (hst.upd (fun h => absurd h (by decide)) (fun _ => ⟨hOA.mono fun k j hk => by unfold PAU; omega, u3.mono fun k j hk => by unfold PMU; omega, Or.inr ⟨3, wr (v0 + 2 * i), by decide, hT.1 _, hFA, u2⟩, fun l' hl' => fA 36 l' (by omega), by rw [fA 36 _ (by omega)]; exact htop.2.2.1, htop.2.2.2, by rw [fM 35 _ (by omega)]; exact hlv.2, htq.1, h29, Or.inl (fM 31 _ (by omega))⟩)) (hdw.off (hOA.mono fun k j hk => by omega) (u3.mono fun k j hk => by omega) (EXF.fn u3 (fun k j hk => by omega) u2 (by decide))) (fun j2 hj2 => ?_) (STEP.at2 hpf (hOA.mono fun k j hk => by unfold NQA2; have := hpf.1 1; omega) (u3.mono fun k j hk => by unfold NQM2; omega) hpf.1 hpf.2.1 (EXF.fn u3 (fun k j hk => by omega) u2 (by decide)))
        obtain ⟨c1', c2'⟩ := hvc j2 hj2
        rw [fM 28 _ (by omega), fM 24 _ (by omega)]
        by_cases q8 : j2 = j
        · subst q8
          rw [h16]
          have h24 : ¬ (gi wM 24 (c1 + 1 + j2) = 1) := by rw [b7]; exact hne
          refine ⟨?_, fun k k1 k2 k3 k4 => absurd k4 h24⟩
          rcases c1' with ⟨x1, _⟩ | ⟨_, _, x3⟩
          · exact Or.inl ⟨x1, Or.inl rfl⟩
          · exact absurd x3 h24
        · rw [fA 16 _ (by omega)]
          refine ⟨?_, fun k k1 k2 k3 => c2' k (by omega) k2 k3⟩
          rcases c1' with ⟨x1, x2 | ⟨x2, k, k1, k2, k3⟩⟩ | x
          · exact Or.inl ⟨x1, Or.inl x2⟩
          · refine Or.inl ⟨x1, Or.inr ⟨x2, k, ?_, k2, k3⟩⟩
            by_cases q9 : k = i
            · rw [q9, hm] at k3; exact absurd (Option.some.inj k3).symm q8
            · omega
          · exact Or.inr x
end JT
