/-! BOTH SIDES: SPECS -/
section JT
variable {kd wr nm : Nat → Nat} {vv : Nat → Int64} {m z : Nat} {gA gM : Wd} {lv : Bool} {sl us B : Nat} {stk obl stkF : List Nat} {prs : PRL} {C TK : Nat → Nat} {SL : Nat → List Nat} {t d b : Nat} {fa : Int32} {wA wM : Wd} {γ α : Type} {wd : γ → Wd} {S : γ → α → Wd → Prop} {P : (Nat → Nat) → Nat → Wd → Wd → Prop}
theorem bn_bn {β : Type} (a : Option Wd) (f : Wd → Option Wd) (K : Wd → Option β) : bn (bn a f) K = bn a (fun w => bn (f w) K) := by
  cases a <;> rfl
/-- a TOKEN that is there, with faults that the reference has yet to note -/
theorem J.okP (hT : TOKS kd wr nm vv m z gA gM) {L : List Nat} (hS : STBJ stk prs obl P) (hst : STJ kd wr nm vv m z gA gM true sl us stk prs C TK SL t d b fa wA wM) (hP : P C t wA wM) {c : Nat} (hc : 2 ≤ c ∧ c ≤ 50) (hd : d ≤ 40) (hs1 : sl ≤ 1) (hk : kd t = c) {KA : Wd → Option γ} {KM : Int32 → Wd → Option (Option α × Wd)} {x : Int32} (hx : x = Int32.ofNat (kM c))
    (H : ∀ uA uM, STJ kd wr nm vv m z gA gM true 0 us stk prs C TK SL (t + 1) d b fa uA uM → t + 1 ≤ m → P C (t + 1) uA uM → gi uM 2 t = Int32.ofNat (kM c) → GLJ kd wr nm z gA gM wd true stkF fa B (KA (pnd wr L uA)) (KM (Int32.ofNat t) uM) S) :
    GLJ kd wr nm z gA gM wd true stkF fa B (lt (fX9_need (Int32.ofNat c) (pnd wr L wA)) KA) (be (fX12_expect x wM) KM) S := by
  have hJ := (hst.jl rfl).2
  have hin' : IN1 kd wr z (pnd wr L wA) t 0 fa := hst.in1.off pnd_off (fun k j hk => by omega)
  have e1 : lt (fX9_need (Int32.ofNat c) (pnd wr L wA)) KA = lt2 (fX9_take (Int32.ofNat c) (pnd wr L wA)) (fun bb u => if bb = true then KA u else none) := by
    rw [take_need hin'.1 (by omega) hk (by omega)]
    rfl
  have e2 : be (fX12_expect x wM) KM = be (fX12_skip x wM) (fun bb u => if bb = true then KM (Int32.ofNat t) u else none) := by
    rw [m_expect hJ.2.1 hd hx (by omega) hk, m_skip hJ.2.1 hd hx (by omega) hk]
    rfl
  rw [e1, e2]
  refine J.takeP (q0 := FNS wr L (FLA wA)) hT hS hst (fun _ => hP) hc (fun _ => hd) hs1 hx (fun _ uA uM h1 hF h2 => ?_) (fun hn => absurd hk hn)
  have ew : fl (FNS wr L (FLA wA)) uA = pnd wr L uA := by
    unfold pnd
    rw [hF]
  rw [if_pos rfl, if_pos rfl, ew]
  have hg : gi uM 2 t = Int32.ofNat (kM c) := by
    have := ((h1.jl rfl).2.2.1.1.2.2.2.2 t (by have := (h2 rfl).1; omega)).1
    rw [hk] at this
    exact this
  exact H uA uM h1 (h2 rfl).1 (h2 rfl).2 hg
/-- what's kept over SPECS -/
def SPI (kd nm TK : Nat → Nat) (c1 pn p sp sf l ty0 tok nf v0 nv : Nat) (C0 : Nat → Nat) (t0 : Nat) (stk0 obl : List Nat) (prs0 : PRL) (wA0 wM0 : Wd) (C : Nat → Nat) (t : Nat) (wA wM : Wd) : Prop := HWV nm TK c1 nf v0 nv wA ∧ PF C0 t0 stk0 prs0 obl wA0 wM0 C t wA wM ∧ HDV kd TK c1 pn p sp sf l ty0 tok nf t C t wA wM
theorem HDV.cb {c1 pn p sp sf l ty tok nf cb cb' : Nat} (h : HDV kd TK c1 pn p sp sf l ty tok nf cb C t wA wM) (hc : cb ≤ cb') : HDV kd TK c1 pn p sp sf l ty tok nf cb' C t wA wM :=
  ⟨h.1, h.2.1, h.2.2.1, h.2.2.2.1, h.2.2.2.2.1, fun i hi => (h.2.2.2.2.2 i hi).agr hc (Nat.le_refl _) (fun _ _ => rfl) (fun _ _ => rfl) (fun _ _ => rfl) EXF.rf⟩
theorem HWV.step {c1 nf v0 nv t' : Nat} {uA uM : Wd} (h : HWV nm TK c1 nf v0 nv wA) (hs : STEP C t stk prs obl wA wM C t' uA uM) (hc : c1 + 1 + nf ≤ C 1) : HWV nm TK c1 nf v0 nv uA := fun i hi => by
  rw [hs.2.2.1 16 _ (Or.inl ⟨by omega, by omega, by omega⟩)]
  exact h i hi
theorem SPI.step {c1 pn p sp sf l ty0 tok nf v0 nv t0 t' : Nat} {C0 : Nat → Nat} {stk0 : List Nat} {prs0 : PRL} {wA0 wM0 uA uM : Wd} (h : SPI kd nm TK c1 pn p sp sf l ty0 tok nf v0 nv C0 t0 stk0 obl prs0 wA0 wM0 C t wA wM) (hp : PF C0 t0 stk0 prs0 obl wA0 wM0 C t' uA uM) (hs : STEP C t stk prs obl wA wM C t' uA uM) : SPI kd nm TK c1 pn p sp sf l ty0 tok nf v0 nv C0 t0 stk0 obl prs0 wA0 wM0 C t' uA uM := by
  obtain ⟨h1, h2, h3⟩ := h
  exact ⟨h1.step hs (by have := h3.1; omega), hp, (h3.step hs).cb hs.2.1⟩
def spK (k : Int32 → Int32 → Int32 → Int32 → Wd → Option Wd) (a1 a2 a3 : Int32) (j : Nat) (K : Wd → Option γ) (x : Int32) (u : Wd) : Option γ := bn (k a1 a2 a3 (Int32.ofNat (j + 1)) (if x = 0 then u else fX8_spec x a3 a2 u)) K
theorem a_s124 {k : Int32 → Int32 → Int32 → Int32 → Wd → Option Wd} {a1 a2 a3 : Int32} {j : Nat} {w : Wd} {K : Wd → Option γ} : bn (fX4_spec_124 k a1 a2 a3 (Int32.ofNat j) w) K = lt (fX9_need (Int32.ofNat 2) w) (fml a1 (gi w 4 9) (spK k a1 a2 a3 j K)) := by
  unfold fX4_spec_124
  rw [bn_bn2, ← a_fml]
  refine bn2_cg fun x u => ?_
  unfold spK
  rw [← ad1_iN j]
  by_cases q : x = 0
  · rw [if_pos q, if_pos q]; rfl
  · rw [if_neg q, if_neg q]; rfl
theorem a_s99 {n j : Nat} {a1 a2 a3 : Int32} {w : Wd} {K : Wd → Option γ} (hj : j + 1 ≤ 8192) : bn (oX4_spec_99 (n + 1) a1 a2 a3 (Int32.ofNat (j + 1)) w) K = lt2 (fX9_take (Int32.ofNat 40) w) fun c w4 => if c = true then bn (fX4_spec_124 (oX4_spec_99 n) a1 a2 a3 (Int32.ofNat (j + 1)) w4) K else K w4 := by
  show bn (fX4_spec_99 (oX4_spec_99 n) a1 a2 a3 (Int32.ofNat (j + 1)) w) K = _
  unfold fX4_spec_99
  rw [if_neg (show ¬ ((8193 : Int32) ≤ Int32.ofNat (j + 1)) from nle_iN (a := 8193) (by omega) (by omega)), if_neg (show ¬ (Int32.ofNat (j + 1) = 0) from fun h => absurd ((eq_iN (a := j + 1) (b := 0) (by omega) (by omega)).mp h) (by omega)), show (40 : Int32) = Int32.ofNat 40 from rfl]
  rcases fX9_take (Int32.ofNat 40) w with ⟨_ | _, u⟩
  · rw [lt2q, lt2q, if_neg (show ¬ (false = true) by decide), if_neg (show ¬ (false = true) by decide)]
    rfl
  · rw [lt2q, lt2q, if_pos rfl, if_pos rfl]
theorem m_186 {k : Int32 → Int32 → Int32 → Wd → Option (Option Unit × Wd)} {a1 a2 a3 : Int32} {w : Wd} {K : Unit → Wd → Option (Option α × Wd)} : be (fX12_spec_186 k a1 a2 a3 w) K = be (fX12_skip 44 w) fun c w2 => if c = true then be (k a1 a2 a3 w2) K else be (fX12_expect 59 w2) fun _ w6 => K () w6 := by
  unfold fX12_spec_186
  rw [be_be]
  refine be_cg fun c w2 => ?_
  cases c
  · rw [if_neg (by decide), if_neg (by decide), be_be]
    rfl
  · rw [if_pos rfl, if_pos rfl]
/-- the reference behind a NAME of a SPEC's -/
def sgM (k : Int32 → Int32 → Int32 → Wd → Option (Option Unit × Wd)) (a1 a2 a3 x1 : Int32) (w2 : Wd) : Option (Option Unit × Wd) := if inb x1 8194 = true then bn2 (fX12_formalOf (gl w2 4 (Int32.toNatClampNeg x1)) a1 w2) fun x5 w6 => if 0 ≤ x5 then (if inb x5 5000 = true then if 0 ≤ (gi w6 25 (Int32.toNatClampNeg x5)) then (fX12_spec_169 k x5 2 a1 a2 a3 x5 w6) else (fX12_spec_169 k x5 1 a1 a2 a3 x5 w6) else none) else (bn (fX12_found 3 x1 w6) fun w10 => fX12_spec_186 k a1 a2 a3 w10) else none
theorem m_110 {k : Int32 → Int32 → Int32 → Wd → Option (Option Unit × Wd)} {a1 a2 a3 : Int32} {w : Wd} {K : Unit → Wd → Option (Option α × Wd)} : be (fX12_spec_110 k a1 a2 a3 w) K = be (fX12_expect 285 w) fun x1 w2 => be (sgM k a1 a2 a3 x1 w2) K := by
  unfold fX12_spec_110 sgM
  rw [be_be]
theorem sg_169 {k : Int32 → Int32 → Int32 → Wd → Option (Option Unit × Wd)} {s2 a1 a2 a3 : Int32} {x : Nat} {w : Wd} (hx : x < 5000) : fX12_spec_169 k (Int32.ofNat x) s2 a1 a2 a3 (Int32.ofNat x) w = fX12_spec_186 k a1 a2 a3 (si (si (si w 25 x s2) 24 x a3) 20 x a2) := by
  unfold fX12_spec_169
  rw [if_pos (inb_iN hx (by omega)), tc_iN (by omega), ltq, if_pos (inb_iN hx (by omega)), ltq, if_pos (inb_iN hx (by omega)), ltq]
theorem sps_loop (hT : TOKS kd wr nm vv m z gA gM) {c1 pn p sp sf l ty0 tok nf v0 nv q t0 ty ks tb : Nat} {L : List Nat} {prs1 prs0 : PRL} {stk0 : List Nat} {C0 : Nat → Nat} {wA0 wM0 : Wd} {KA : Wd → Option γ} {KM : Wd → Option (Option α × Wd)} (hty : ty ≤ 2) (hks : (1 ≤ ks ∧ ks ≤ 5) ∧ (ks = 1 ∨ ks = 2 → ty ≠ 0) ∧ (ks = 5 → ty = 0)) (hb : 2800 ≤ b) (hlen : prs1.length = l + 1) (hc01 : C0 1 ≤ c1)
    (hPF : STBJ stk ((pn, 6, q) :: prs1) obl (PF C0 t0 stk0 prs0 obl wA0 wM0))
    (HX : ∀ lv' t' fa' uA uM L', STJ kd wr nm vv m z gA gM lv' 0 c1 stk ((pn, 6, q) :: prs1) C TK SL t' d b fa' uA uM → (lv' = true → lv = true ∧ tb < t' ∧ t' ≤ m ∧ L' = L ∧ SPI kd nm TK c1 pn p sp sf l ty0 tok nf v0 nv C0 t0 stk0 obl prs0 wA0 wM0 C t' uA uM) → (lv' = false → t' = z - 1) → GLJ kd wr nm z gA gM wd lv' stkF fa' B (KA (pnd wr L' uA)) (be (fX12_expect 59 uM) fun _ w6 => KM w6) S)
    {fo fm : Nat} : ∀ (n : Nat) (lv1 : Bool) (t : Nat) (fa : Int32) (wA wM : Wd) (j : Nat) (L' : List Nat), z ≤ t + n → j + 1 ≤ t → STJ kd wr nm vv m z gA gM lv1 0 c1 stk ((pn, 6, q) :: prs1) C TK SL t d b fa wA wM →
      (lv1 = true → lv = true ∧ d ≤ 40 ∧ tb ≤ t ∧ L' = L ∧ SPI kd nm TK c1 pn p sp sf l ty0 tok nf v0 nv C0 t0 stk0 obl prs0 wA0 wM0 C t wA wM) → (lv1 = false → t = z - 1) →
      GLJ kd wr nm z gA gM wd lv1 stkF fa B (bn (fX4_spec_124 (oX4_spec_99 (fo + n + 1)) (Int32.ofNat (c1 + 1)) (Int32.ofNat ty) (Int32.ofNat ks) (Int32.ofNat j) (pnd wr L' wA)) KA) (be (fX12_spec_110 (oX12_spec_110 (fm + n)) (Int32.ofNat (c1 + 1 + nf)) (Int32.ofNat ty) (Int32.ofNat ks) wM) fun _ w => KM w) S := by
  intro n
  induction n with
  | zero =>
    intro lv1 t fa wA wM j L' hz hj hst
    have := hst.in1.tz
    omega
  | succ n ih =>
    intro lv1 t fa wA wM j L' hz hj hst hl hdd
    have hin := hst.in1
    have htz := hin.tz
    have hz9 := hin.z9
    have h49 : gi (pnd wr L' wA) 4 9 = Int32.ofNat t := by
      rw [(pnd_off 4 9 (by omega)).1]
      exact hin.1.2.2.2.2.2.2.2.1
    rw [a_s124, m_110, h49, show fo + (n + 1) + 1 = (fo + n + 1) + 1 by omega]
    have e3 : ∀ w, oX12_spec_110 (fm + (n + 1)) (Int32.ofNat (c1 + 1 + nf)) (Int32.ofNat ty) (Int32.ofNat ks) w = fX12_spec_110 (oX12_spec_110 (fm + n)) (Int32.ofNat (c1 + 1 + nf)) (Int32.ofNat ty) (Int32.ofNat ks) w := fun _ => rfl
    refine J.needP (c := 2) (x := 285) (q0 := FNS wr L' (FLA wA)) (P := fun C' t' a c => lv1 = true → PF C0 t0 stk0 prs0 obl wA0 wM0 C' t' a c ∧ PF C t stk ((pn, 6, q) :: prs1) obl wA wM C' t' a c) hT (STBJ.if fun _ => STBJ.and hPF PF.st0) hst (fun h _ => ⟨(hl h).2.2.2.2.2.1, STEP.rf⟩) (by omega) (fun h => (hl h).2.1) hb (by omega) rfl (fun lv2 t2 fa2 uA uM hst2 hF hl2 hd2 => ?_)
    have hin2 := hst2.in1
    have ew : fl (FNS wr L' (FLA wA)) uA = pnd wr L' uA := by
      unfold pnd
      rw [hF]
    rw [ew]
    cases lv2
    · -- dead
      have ht2 := hd2 rfl
      rw [fml_dead hin2 (hst2.fa0 rfl) pnd_off]
      unfold spK
      rw [if_pos rfl]
      have hO : OFF PAN (fX1_note (Int32.ofNat t) 3 (pnd wr L' uA)) uA := (OFF.tr e_note pnd_off).mono fun k j h => by unfold PAN; omega
      generalize fX1_note (Int32.ofNat t) 3 (pnd wr L' uA) = vA at hO ⊢
      have hst3 := hst2.dn (sl' := 0) (us' := c1) (prs' := (pn, 6, q) :: prs1) (C' := C) (TK' := TK) (SL' := SL) (d' := d) (uM := uM) rfl hO
      rw [a_s99 (by omega), a_take_no hst3.in1.1 (by omega) (by rw [ht2]; have := hin2.1.2.2.2.1 (z - 1) (by omega); omega), lt2q, if_neg (show ¬ (false = true) by decide)]
      refine GLJ.ref (rM' := be (fX12_expect 59 uM) fun _ w6 => KM w6) (fun h => absurd h (by decide)) ?_
      have := HX false t2 fa2 vA uM [] hst3 (fun h => absurd h (by decide)) hd2
      rw [pnd_nil] at this
      exact this
    · obtain ⟨g1, g2, g3, g4, g5⟩ := hl2 rfl
      obtain ⟨y0, yd, y1, y2, y3⟩ := hl g1
      subst y2
      obtain ⟨v1, v2⟩ := g5 g1
      have hJ := (hst2.jl rfl).2
      have hz2 := hT.2.2.1
      obtain ⟨s1, s2, hdv⟩ := y3.step v1 v2
      have hcc := hJ.2.2.2.2.2.1
      have hwt := hT.1 t2
      have hc1 := hdv.1
      have hc4 : c1 + 1 + nf ≤ 4100 := by omega
      rw [fml_live hJ hT hdv hc4 (by omega) g2]
      have hwh : fX9_where (Int32.ofNat t) uA = Int32.ofNat (wr t) := a_where hin2.1 (by omega)
      have htop := hJ.top
      have hlv := hJ.lev
      have htq := hJ.topq
      have hm9 := hJ.2.1.1.1
      have htm2 := hJ.2.1.2.1
      have h29 : ∀ i, i < c1 → gi uM 29 pn ≠ Int32.ofNat i := fun i hi => by
        rw [hdv.2.2.2.1.2.2.1]
        exact of_ne (by omega) (by omega) (by omega)
      -- both behind it
      have hgo : ∃ vA vM, oel (mtF nm TK c1 nf t) (spK (oX4_spec_99 ((fo + n + 1) + 1)) (Int32.ofNat (c1 + 1)) (Int32.ofNat ty) (Int32.ofNat ks) j KA 0 (fX1_note (Int32.ofNat t) 3 (pnd wr L' uA))) (fun i => spK (oX4_spec_99 ((fo + n + 1) + 1)) (Int32.ofNat (c1 + 1)) (Int32.ofNat ty) (Int32.ofNat ks) j KA (Int32.ofNat (c1 + 2 + i)) (pnd wr L' uA)) = bn (oX4_spec_99 ((fo + n + 1) + 1) (Int32.ofNat (c1 + 1)) (Int32.ofNat ty) (Int32.ofNat ks) (Int32.ofNat (j + 1)) (pnd wr L' vA)) KA ∧ (be (sgM (oX12_spec_110 (fm + (n + 1))) (Int32.ofNat (c1 + 1 + nf)) (Int32.ofNat ty) (Int32.ofNat ks) (Int32.ofNat t) uM) fun _ w => KM w) = (be (fX12_spec_186 (oX12_spec_110 (fm + (n + 1))) (Int32.ofNat (c1 + 1 + nf)) (Int32.ofNat ty) (Int32.ofNat ks) vM) fun _ w => KM w) ∧ OFF (fun k j' => (k = 3 ∧ (j' = 6 ∨ j' = 7)) ∨ ((k = 14 ∨ k = 15 ∨ k = 23) ∧ c1 + 2 ≤ j')) vA uA ∧ OFF (fun k j' => (k = 0 ∧ (j' = 10 ∨ j' = 11)) ∨ ((k = 20 ∨ k = 24 ∨ k = 25) ∧ c1 + 1 ≤ j')) vM uM ∧ NTF uA uM vA vM ∧ HDV kd TK c1 pn p sp sf l ty0 tok nf t2 C t2 vA vM := by
        have hml := HDV.m_look hJ hT hdv hc4 htq.2.1 (by omega) (v := t) (by omega) g2
        unfold sgM
        rw [if_pos (inb_iN (by omega) (by omega)), tc_iN (by omega), hml]
        rcases hm : mtF nm TK c1 nf t with _ | i
        · obtain ⟨u, u1, u2, u3⟩ := found_ok (num := 3) hJ.2.1 (a := t) (by omega)
          refine ⟨fX1_note (Int32.ofNat t) 3 uA, u, ?_, ?_, e_note.mono fun k j h => Or.inl h, u3.mono fun k j h => Or.inl h, Or.inr ⟨3, wr t, by decide, hT.1 t, (note_ok hin2.1 (by omega)).1, u2⟩, ?_⟩
          · show spK _ _ _ _ j KA 0 _ = _
            unfold spK
            rw [if_pos rfl, pnd_now (by decide) hwh]
          · rw [bn2_so]
            show be (if (0 : Int32) ≤ -1 then _ else _) _ = _
            rw [if_neg (by decide), u1, bn_so]
          · have fA : ∀ k j', k ≠ 3 → gi (fX1_note (Int32.ofNat t) 3 uA) k j' = gi uA k j' := fun k j' hk => (e_note k j' (by omega)).1
            have fM : ∀ k j', k ≠ 0 → gi u k j' = gi uM k j' := fun k j' hk => (u3 k j' (by omega)).1
            obtain ⟨a1, a2, a3, a4, ⟨a5, a6, a7⟩, a8⟩ := hdv
            have hxu : EXF uM u := EXF.mk u3 (fun k j hk => by omega) fun _ => by
              show (FLM u).1 ≠ 0
              rw [u2]
              exact FN_ne (by decide)
            exact ⟨a1, a2, a3, a4.agr (fun k hk => fA k _ (by omega)) (fA 25 _ (by omega)) (fun k hk => fM k _ (by omega)) (fun k hk => fM k _ (by omega)) hxu, ⟨by rw [fA 19 _ (by omega)]; exact a5, by rw [fA 20 _ (by omega)]; exact a6, by rw [fM 31 _ (by omega)]; exact a7⟩, fun i hi => (a8 i hi).agr (Nat.le_refl _) (Nat.le_refl _) (fun k hk => fA k _ (by omega)) (fun j hj => fA 25 _ (by omega)) (fun k hk => fM k _ (by omega)) hxu⟩
        · have hi := (fst9_ok _ _ _ hm).2.1
          have hi' : i < nf := by omega
          obtain ⟨a1, a2, a3, a4, ⟨a5, a6, a7⟩, a8⟩ := y3.2.2.step v2
          obtain ⟨b1, b2, b3, ⟨b4, k, c, b5, b6, b7, b8, b9, b10⟩, b11, b12⟩ := a8 i hi'
          have h23 : gi uA 23 (c1 + 2 + i) = Int32.ofNat c := by rw [show c1 + 2 + i = c1 + 1 + i + 1 by omega]; exact b9
          refine ⟨si (si (si uA 14 (c1 + 2 + i) (Int32.ofNat ks)) 15 (c1 + 2 + i) (Int32.ofNat ty)) 23 (c1 + 2 + i) (Int32.ofNat (c + 1)), si (si (si uM 25 (c1 + 1 + i) (if c = 0 then 1 else 2)) 24 (c1 + 1 + i) (Int32.ofNat ks)) 20 (c1 + 1 + i) (Int32.ofNat ty), ?_, ?_, OFF.tr (OFF.si (by omega)) (OFF.tr (OFF.si (by omega)) (OFF.si (by omega))), OFF.tr (OFF.si (by omega)) (OFF.tr (OFF.si (by omega)) (OFF.si (by omega))), Or.inl ⟨by unfold FLA; rw [gi_si1 (by omega), gi_si1 (by omega), gi_si1 (by omega), gi_si1 (by omega), gi_si1 (by omega), gi_si1 (by omega)], by unfold FLM; rw [gi_si1 (by omega), gi_si1 (by omega), gi_si1 (by omega), gi_si1 (by omega), gi_si1 (by omega), gi_si1 (by omega)]⟩, ?_⟩
          · show spK _ _ _ _ j KA (Int32.ofNat (c1 + 2 + i)) _ = _
            unfold spK fX8_spec
            rw [if_neg (show ¬ (Int32.ofNat (c1 + 2 + i) = 0) from of_ne (n := c1 + 2 + i) (k := 0) (by omega) (by omega) (by omega)), ltq, ltq, ltq, ltq, rsi_iN (by omega) (by omega), rsi_iN (by omega) (by omega), rsi_iN (by omega) (by omega), rgi_iN (by omega) (by omega), gi_si1 (by omega), gi_si1 (by omega), (pnd_off 23 _ (by omega)).1, h23, ad1_iN, pnd_si (by omega), pnd_si (by omega), pnd_si (by omega)]
          · rw [bn2_so]
            have el : lk9 (-1) (c1 + 1) (some i) = Int32.ofNat (c1 + 1 + i) := rfl
            rw [el, if_pos (show (0 : Int32) ≤ Int32.ofNat (c1 + 1 + i) from ofle (x := 0) (by omega) (by omega)), if_pos (inb_iN (by omega) (by omega)), tc_iN (by omega)]
            rcases b10 with ⟨c0, c1', c2⟩ | ⟨c0, c1', c2⟩ | ⟨c0, c1', c2⟩
            · rw [c2, if_neg (by decide), sg_169 (by omega), if_pos c0]
            · rw [c2, if_pos (by decide), sg_169 (by omega), if_neg (by omega)]
            · rw [c2, if_pos (by decide), sg_169 (by omega), if_neg (by omega)]
          · have fA : ∀ k' j', ¬ ((k' = 14 ∨ k' = 15 ∨ k' = 23) ∧ j' = c1 + 2 + i) → gi (si (si (si uA 14 (c1 + 2 + i) (Int32.ofNat ks)) 15 (c1 + 2 + i) (Int32.ofNat ty)) 23 (c1 + 2 + i) (Int32.ofNat (c + 1))) k' j' = gi uA k' j' := fun k' j' hk => by
              rw [gi_si1 (by omega), gi_si1 (by omega), gi_si1 (by omega)]
            have fM : ∀ k' j', ¬ ((k' = 20 ∨ k' = 24 ∨ k' = 25) ∧ j' = c1 + 1 + i) → gi (si (si (si uM 25 (c1 + 1 + i) (if c = 0 then 1 else 2)) 24 (c1 + 1 + i) (Int32.ofNat ks)) 20 (c1 + 1 + i) (Int32.ofNat ty)) k' j' = gi uM k' j' := fun k' j' hk => by
              rw [gi_si1 (by omega), gi_si1 (by omega), gi_si1 (by omega)]
            have hxu : EXF uM (si (si (si uM 25 (c1 + 1 + i) (if c = 0 then 1 else 2)) 24 (c1 + 1 + i) (Int32.ofNat ks)) 20 (c1 + 1 + i) (Int32.ofNat ty)) := EXF.mk (P := fun k j => k = 25 ∨ k = 24 ∨ k = 20) (OFF.tr (OFF.si (by omega)) (OFF.tr (OFF.si (by omega)) (OFF.si (by omega)))) (fun k j hk => by omega) fun hh => by
              rw [fM 0 10 (by omega)]
              exact hh
            refine ⟨a1, a2, a3, a4.agr (fun k hk => fA k _ (by omega)) (fA 25 _ (by omega)) (fun k hk => fM k _ (by omega)) (fun k hk => fM k _ (by omega)) hxu, ⟨by rw [fA 19 _ (by omega)]; exact a5, by rw [fA 20 _ (by omega)]; exact a6, by rw [fM 31 _ (by omega)]; exact a7⟩, fun i' hi2 => ?_⟩
            by_cases q8 : i' = i
            · rw [q8]
              have ex : c1 + 1 + i + 1 = c1 + 2 + i := by omega
              refine ⟨b1, b2, b3.agr (fun k hk => fA k _ (by omega)) (fA 25 _ (by omega)) (fun k hk => fM k _ (by omega)) hxu, ⟨⟨ty, hty, gi_si0 _ _ _ _, ?_, ?_⟩, ks, c + 1, hks.1.2, by omega, ?_, ?_, ?_, ?_⟩, by rw [fM 28 _ (by omega)]; exact b11, by rw [fA 16 _ (by omega)]; exact b12⟩
              · rw [ex, gi_si1 (by omega), gi_si0]
              · rw [gi_si1 (by omega), gi_si0]
                exact ⟨fun h => hks.2.1 (h.imp (eq_iN (a := ks) (b := 1) (by omega) (by omega)).mp (eq_iN (a := ks) (b := 2) (by omega) (by omega)).mp), fun h => hks.2.2 ((eq_iN (a := ks) (b := 5) (by omega) (by omega)).mp h)⟩
              · rw [gi_si1 (by omega), gi_si0]
              · rw [ex, gi_si1 (by omega), gi_si1 (by omega), gi_si0]
              · rw [ex, gi_si0]
              · rw [gi_si1 (by omega), gi_si1 (by omega), gi_si0]
                by_cases c0 : c = 0
                · rw [if_pos c0]
                  exact Or.inr (Or.inl ⟨by omega, hks.1.1, rfl⟩)
                · rw [if_neg c0]
                  exact Or.inr (Or.inr ⟨by omega, hks.1.1, rfl⟩)
            · exact (a8 i' hi2).agr (by omega) (Nat.le_refl _) (fun k hk => fA k _ (by omega)) (fun j hj => fA 25 _ (by omega)) (fun k hk => fM k _ (by omega)) hxu
      obtain ⟨vA, vM, k1, k2, k3, k4, k5, hdv2⟩ := hgo
      rw [k1, k2]
      have fA : ∀ k j', ¬ ((k = 3 ∧ (j' = 6 ∨ j' = 7)) ∨ ((k = 14 ∨ k = 15 ∨ k = 23) ∧ c1 + 2 ≤ j')) → gi vA k j' = gi uA k j' := fun k j' hk => (k3 k j' hk).1
      have fM : ∀ k j', ¬ ((k = 0 ∧ (j' = 10 ∨ j' = 11)) ∨ ((k = 20 ∨ k = 24 ∨ k = 25) ∧ c1 + 1 ≤ j')) → gi vM k j' = gi uM k j' := fun k j' hk => (k4 k j' hk).1
      have hst3 : STJ kd wr nm vv m z gA gM true 0 c1 stk ((pn, 6, q) :: prs1) C TK SL t2 d b fa2 vA vM := hst2.upd (fun h => absurd h (by decide)) (fun _ => ⟨k3.mono fun k j hk => by unfold PAU; omega, k4.mono fun k j hk => by unfold PMU; omega, k5, fun l' hl' => fA 36 l' (by omega), by rw [fA 36 _ (by omega)]; exact htop.2.2.1, htop.2.2.2, by rw [fM 35 _ (by omega)]; exact hlv.2, htq.1, h29, Or.inl (fM 31 _ (by omega))⟩)
      have hPFv : PF C0 t0 stk0 prs0 obl wA0 wM0 C t2 vA vM := STEP.at2 v1 (k3.mono fun k j hk => by unfold NQA2; omega) (k4.mono fun k j hk => by unfold NQM2; omega) v1.1 v1.2.1 (NTF.exf k5 k4 (fun k j hk => by omega))
      have hspi : SPI kd nm TK c1 pn p sp sf l ty0 tok nf v0 nv C0 t0 stk0 obl prs0 wA0 wM0 C t2 vA vM := ⟨fun i hi => by rw [fA 16 _ (by omega)]; exact s1 i hi, hPFv, hdv2⟩
      rw [a_s99 (by omega), m_186]
      refine J.takeP (c := 40) (q0 := FNS wr L' (FLA vA)) (P := fun C' t' a c => PF C0 t0 stk0 prs0 obl wA0 wM0 C' t' a c ∧ PF C t2 stk ((pn, 6, q) :: prs1) obl vA vM C' t' a c) hT (STBJ.and hPF PF.st0) hst3 (fun _ => ⟨hPFv, STEP.rf⟩) (by omega) (fun _ => yd) (by omega) rfl (fun h40 sA sM hst4 hF4 hl4 => ?_) (fun h40 => ?_)
      · obtain ⟨r1, r2, r3⟩ := hl4 rfl
        have ew4 : fl (FNS wr L' (FLA vA)) sA = pnd wr L' sA := by
          unfold pnd
          rw [hF4]
        rw [if_pos rfl, if_pos rfl, ew4, e3]
        exact ih true (t2 + 1) fa2 sA sM (j + 1) L' (by omega) (by omega) hst4 (fun _ => ⟨y0, yd, by omega, rfl, hspi.step r2 r3⟩) (fun h => absurd h (by decide))
      · rw [if_neg (show ¬ (false = true) by decide), if_neg (show ¬ (false = true) by decide)]
        exact HX true t2 fa2 vA vM L' hst3 (fun _ => ⟨y0, by omega, by omega, rfl, hspi⟩) (fun h => absurd h (by decide))
end JT
