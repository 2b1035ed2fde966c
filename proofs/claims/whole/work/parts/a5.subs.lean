/-! BOTH SIDES: EXPRS, AIMS, places, calls -/
section JT
variable {kd wr nm : Nat → Nat} {vv : Nat → Int64} {m z : Nat} {gA gM : Wd} {lv : Bool} {sl us B : Nat} {stk obl stkF : List Nat} {prs : PRL} {C TK : Nat → Nat} {SL : Nat → List Nat} {t d b : Nat} {fa : Int32} {wA wM : Wd} {γ α : Type} {wd : γ → Wd} {S : γ → α → Wd → Prop} {P : (Nat → Nat) → Nat → Wd → Wd → Prop}
theorem DI.ofPE {w u : Wd} {t' : Nat} {b' : Nat} (h : DI kd wr nm z gA stk fa b w) (hin : IN1 kd wr z u (z - 1) 0 fa) (hO : OFF (PE1 t') u w) (hb : b ≤ b') : DI kd wr nm z gA stk fa b' u := by
  obtain ⟨a, c, e, TK, SL, ns, nsc, f, g⟩ := h
  exact ⟨hin, c, OFF.tr (hO.mono (fun k j hp => by unfold PE1 at hp; unfold PAA; omega)) e, TK, SL, ns, nsc, f.agr (fun k j hk => (hO k j (by unfold PSC at hk; unfold PE1; omega)).1), by omega⟩
theorem JL.ofPE {u : Wd} {t' p : Nat} (h : JL kd wr nm vv m z gA gM sl us stk prs C TK SL t d wA wM) (hb : 2800 ≤ b) (hin : IN1 kd wr z u (z - 1) 0 (Int32.ofNat (wr p))) (hw : wr p ≤ 8192) (hwt : wr t ≤ 8192) (hO : OFF (PE1 t') u wA) : DI kd wr nm z gA stk (Int32.ofNat (wr p)) b u := by
  refine ⟨hin, zl_iN (by omega), OFF.tr (hO.mono (fun k j hp => by unfold PE1 at hp; unfold PAA; omega)) h.2.2.1, TK, SL, C 1, C 2, h.2.2.2.2.2.2.1.agr (fun k j hk => (hO k j (by unfold PSC at hk; unfold PE1; omega)).1), ?_⟩
  have := h.2.2.2.2.2.1
  omega
/-- what's gone over by both to the same end -/
theorem J.sub {d' : Nat} (hT : TOKS kd wr nm vv m z gA gM) (hS : STBJ stk prs obl P) (hst : STJ kd wr nm vv m z gA gM lv sl us stk prs C TK SL t d b fa wA wM) (hP : lv = true → P C t wA wM) (hb : 2800 ≤ b) (hs1 : sl ≤ 1) {rA : Option (Int32 × Wd)} {rM : Option (Option Int32 × Wd)} {o : Sum Nat Nat} {QA : Int32 → Nat → Wd → Prop} {QM : Nat → Nat → Wd → Prop} (hrun : RUN kd wr z rA wA t 0 o fa QA) (hdead : lv = false → ∃ p, o = .inl p)
    (hM : JL kd wr nm vv m z gA gM sl us stk prs C TK SL t d wA wM → lv = true → (∀ p, o = .inl p → RNO wr rM wM (PXN (C 0)) p) ∧ ∀ e, o = .inr e → ∃ n uM, rM = some (some (Int32.ofNat n), uM) ∧ SM kd wr m uM e d' ∧ gi uM 0 23 = Int32.ofNat (n + 1) ∧ C 0 ≤ n ∧ n + 1 + t ≤ C 0 + e ∧ OFF (PXN (C 0)) uM wM ∧ QM e n uM)
    {KA : Int32 → Wd → Option γ} {KM : Int32 → Wd → Option (Option α × Wd)}
    (H : ∀ lv' x t' fa' uA uM n, STJ kd wr nm vv m z gA gM lv' 0 us stk prs (upC C 0 (n + 1)) TK SL t' d' b fa' uA uM → (lv' = true → lv = true ∧ o = .inr t' ∧ t < t' ∧ t' ≤ m ∧ C 0 ≤ n ∧ n + 1 + t ≤ C 0 + t' ∧ QA x t' uA ∧ QM t' n uM ∧ P (upC C 0 (n + 1)) t' uA uM) → (lv' = false → t' = z - 1) → GLJ kd wr nm z gA gM wd lv' stkF fa' B (KA x uA) (KM (Int32.ofNat n) uM) S) :
    GLJ kd wr nm z gA gM wd lv stkF fa B (bn2 rA KA) (be rM KM) S := by
  obtain ⟨x, uA, r1, r2, r3, r4, r5⟩ := hrun
  rw [r1, bn2_so]
  rcases hst with ⟨h1, h2, h3⟩ | ⟨h1, h2, h3⟩
  · subst h1
    subst h2
    obtain ⟨q1, q2⟩ := hM h3 rfl
    rcases o with p | e
    · obtain ⟨v, v1, v2, v3⟩ := q1 p rfl
      have hin := r4 p rfl
      rw [FA_1] at hin
      have hD := h3.ofPE hb hin (hT.1 p) (hT.1 t) r3
      obtain ⟨g, g1, g2⟩ := (H false x (z - 1) _ uA wM 0 (Or.inr ⟨rfl, rfl, hD⟩) (fun h => absurd h (by decide)) (fun _ => rfl)).1 rfl
      rw [v1, be_no]
      exact ⟨fun h => absurd h (by decide), fun _ => Or.inl ⟨p, g, v, g1, g2, rfl, v2, OFF.tr (v3.mono (fun k j hp => by unfold PXN at hp; unfold PMM; omega)) h3.2.2.2.1⟩⟩
    · obtain ⟨n, uM, m1, m2, m3, m4, m5, m6, m7⟩ := q2 e rfl
      obtain ⟨s1, s2, s3⟩ := r5 e rfl
      rw [m1, be_so]
      have hbb := h3.2.2.2.2.2.1
      have hem := m2.2.1
      have hw1 := hT.2.2.2.2.2.2.1 t (by omega)
      have hw2 := hT.mono (t := t + 1) (t' := e) (by omega) hem
      have hw3 : 1 ≤ wlN (kd t) := by
        unfold wlN
        repeat' split
        all_goals omega
      have hJ := JL.mv (sl' := 0) (n := n + 1) hT h3 (r3.mono PE1.xa) (m6.mono PXN.xm) s2 m2 m3 (by omega) (by omega) (by omega) (by omega)
      have hSt : STEP C t stk prs obl wA wM (upC C 0 (n + 1)) e uA uM := STEP.xa (fun k j hk => (r3 k j (by unfold PE1; omega)).1) m6 (by omega) (by omega)
      exact H true x e (-1) uA uM n (Or.inl ⟨rfl, rfl, hJ⟩) (fun _ => ⟨rfl, rfl, by omega, hem, m4, m5, s3, m7, hS _ _ _ _ _ _ _ _ (hP rfl) hSt⟩) (fun h => absurd h (by decide))
  · subst h1
    obtain ⟨p, hp⟩ := hdead rfl
    have hin := r4 p hp
    have hfa : FA wr fa p = fa := if_pos h3.2.1
    rw [hfa] at hin
    have hD := h3.ofPE hin r3 (Nat.le_refl _)
    exact ⟨fun _ => (H false x (z - 1) fa uA wM 0 (Or.inr ⟨rfl, rfl, hD⟩) (fun h => absurd h (by decide)) (fun _ => rfl)).1 rfl, fun h => absurd h (by decide)⟩
/-- an EXPR, on both sides -/
def XPR (kd : Nat → Nat) (sc : Int32) (lo n d s e cn : Nat) (fA fM : Wd) : Prop := fmW kd fA 41 d s ∧ PWR kd fM sc 41 lo n d s e cn
/-- an AIM, on both sides -/
def XAM (kd : Nat → Nat) (sc : Int32) (lo n d s e : Nat) (fA fM : Wd) : Prop := fmA kd fA 41 d s ∧ PAM kd fM sc 41 lo n d s e
theorem m_expr {sc : Int32} {d : Nat} (hd : d ≤ 40) : FUN kd wr m sc d (xw kd 41 d) (WRL kd sc 41 d) (RX12_variable 900 4 0 0 0) :=
  fun_id (m_whole 41 d 899 hd (by omega) (by omega)) (fun w => rfl)
theorem JL.ins (h : JL kd wr nm vv m z gA gM sl us stk prs C TK SL t d wA wM) : INS kd wr m (hdM stk) wM t d (C 0) := ⟨h.2.1, h.2.2.2.2.2.2.2.2.2.1.1, h.2.2.2.2.2.1.1, h.2.2.2.2.2.2.2.2.1⟩
theorem AGR.ext {lo n : Nat} {Cf : Nat → Nat} {fM uM : Wd} (h : EXTL lo Cf stk prs obl n uM fM) (hn : n < Cf 0) : AGR lo n fM uM := fun k j hk hl hj => (h k j (by
  by_cases q : k = 11
  · exact Or.inr (Or.inl ⟨q, hl, by omega, by omega⟩)
  · exact Or.inl ⟨by omega, hl, by omega⟩)).1
theorem AG9.ext {Cf : Nat → Nat} {tf s e : Nat} {fA uA : Wd} (h : EXTA Cf tf stk obl uA fA) (he : e ≤ tf) : AG9 fA uA s e := fun k j a b c d => h k j (Or.inr (Or.inr (Or.inl ⟨a, b, by omega⟩)))
theorem J.expr (hT : TOKS kd wr nm vv m z gA gM) (hS : STBJ stk prs obl P) (hst : STJ kd wr nm vv m z gA gM lv sl us stk prs C TK SL t d b fa wA wM) (hP : lv = true → P C t wA wM) (hd : d ≤ 41 ∧ (lv = true → d ≤ 40)) (hb : 2800 ≤ b) (hs1 : sl ≤ 1) {rA : Option (Int32 × Wd)} {a2 : Int32} (hrA : rA = RX2_typed 900 0 (Int32.ofNat d) a2 0 wA ∨ rA = RX2_typed 900 2 (Int32.ofNat d) 0 0 wA)
    {KA : Int32 → Wd → Option γ} {KM : Int32 → Wd → Option (Option α × Wd)}
    (H : ∀ lv' x t' fa' uA uM n cn, STJ kd wr nm vv m z gA gM lv' 0 us stk prs (upC C 0 (n + 1)) TK SL t' d b fa' uA uM → (lv' = true → lv = true ∧ t < t' ∧ t' ≤ m ∧ C 0 ≤ n ∧ n + 1 + t ≤ C 0 + t' ∧ P (upC C 0 (n + 1)) t' uA uM ∧ gi uM 11 n = -1 ∧ XPR kd (hdM stk) (C 0) n d t t' cn uA uM ∧ FACT stk prs obl (C 0) (upC C 0 (n + 1)) t' n (XPR kd (hdM stk) (C 0) n d t t' cn) uA uM) → (lv' = false → t' = z - 1) → GLJ kd wr nm z gA gM wd lv' stkF fa' B (KA x uA) (KM (Int32.ofNat n) uM) S) :
    GLJ kd wr nm z gA gM wd lv stkF fa B (bn2 rA KA) (be (RX12_variable 900 4 0 0 0 wM) KM) S := by
  have hin := hst.in1
  have hk0 : lv = false → kd t = 0 := fun h => by
    rcases hst with ⟨q, _⟩ | ⟨_, q, h3⟩
    · rw [h] at q; exact absurd q (by decide)
    · rw [q]; exact h3.1.zk
  have hdd : d ≤ 40 ∨ d ≤ 41 ∧ kd t = 0 := by
    cases lv
    · exact Or.inr ⟨hd.1, hk0 rfl⟩
    · exact Or.inl (hd.2 rfl)
  have hE := ex1_all hT.1 hT.2.1 41
  have hrun : RUN kd wr z rA wA t 0 (xw kd 41 d t) fa (QW kd 41 d t) := by
    rcases hrA with h | h
    · rw [h]
      exact a2_tQ (rc := RX2_typed 899) (hE 899 d (by omega) (by omega)) wA t 0 fa hin (by omega) hdd
    · rw [h]
      exact hE 900 d (by omega) (by omega) wA t 0 fa hin (by omega) hdd
  refine J.sub (d' := d) (QM := fun e n uM => gi uM 11 n = -1 ∧ ∃ cn, PWR kd uM (hdM stk) 41 (C 0) n d t e cn) hT hS hst hP hb hs1 hrun (fun h => ⟨t, xw_0 (hk0 h) 41 d⟩) (fun hJ hl => ?_) (fun lv' x t' fa' uA uM n hst' hl' hd' => ?_)
  · obtain ⟨q1, q2⟩ := m_expr (sc := hdM stk) (hd.2 hl) wM t (C 0) hJ.ins
    refine ⟨q1, fun e he => ?_⟩
    obtain ⟨n, u, cn, v1, v2, v3, v4, v5, v6, v7, v8, v9, v10⟩ := q2 e he
    exact ⟨n, u, v1, v2, v3, v4, v5, v10, v8, cn, v9⟩
  · by_cases hlv : lv' = true
    · obtain ⟨y1, y2, y3, y4, y5, y6, y7, ⟨y8, cn, y9⟩, y10⟩ := hl' hlv
      refine H lv' x t' fa' uA uM n cn hst' (fun _ => ⟨y1, y3, y4, y5, y6, y10, y8, ⟨y7, y9⟩, fun fA fM hA hM hE => ⟨?_, ?_⟩⟩) hd'
      · exact fmW_agr 41 d t t' y2 y7 (AG9.ext hA (Nat.le_refl _))
      · exact (PWR.agr 41 fM uM _ _ _ _ _ _ y9).2 (AGR.ext hM (by rw [upC_s]; omega))
    · exact H lv' x t' fa' uA uM n 0 hst' (fun h => absurd h hlv) hd'
/-- an AIM, on both sides -/
theorem J.aim (hT : TOKS kd wr nm vv m z gA gM) (hS : STBJ stk prs obl P) (hst : STJ kd wr nm vv m z gA gM lv sl us stk prs C TK SL t d b fa wA wM) (hP : lv = true → P C t wA wM) (hd : d ≤ 41 ∧ (lv = true → d ≤ 40)) (hb : 2800 ≤ b) (hs1 : sl ≤ 1)
    {KA : Int32 → Wd → Option γ} {KM : Int32 → Wd → Option (Option α × Wd)}
    (H : ∀ lv' x t' fa' uA uM n, STJ kd wr nm vv m z gA gM lv' 0 us stk prs (upC C 0 (n + 1)) TK SL t' d b fa' uA uM → (lv' = true → lv = true ∧ t < t' ∧ t' ≤ m ∧ C 0 ≤ n ∧ n + 1 + t ≤ C 0 + t' ∧ P (upC C 0 (n + 1)) t' uA uM ∧ gi uM 11 n = -1 ∧ FACT stk prs obl (C 0) (upC C 0 (n + 1)) t' n (fun fA fM => XAM kd (hdM stk) (C 0) n d t t' fA fM) uA uM) → (lv' = false → t' = z - 1) → GLJ kd wr nm z gA gM wd lv' stkF fa' B (KA x uA) (KM (Int32.ofNat n) uM) S) :
    GLJ kd wr nm z gA gM wd lv stkF fa B (bn2 (RX2_typed 900 11 (Int32.ofNat d) 1 0 wA) KA) (be (RX12_variable 900 3 0 0 0 wM) KM) S := by
  have hin := hst.in1
  have hk0 : lv = false → kd t = 0 := fun h => by
    rcases hst with ⟨q, _⟩ | ⟨_, q, h3⟩
    · rw [h] at q; exact absurd q (by decide)
    · rw [q]; exact h3.1.zk
  have hdd : d ≤ 40 ∨ d ≤ 41 ∧ kd t = 0 := by
    cases lv
    · exact Or.inr ⟨hd.1, hk0 rfl⟩
    · exact Or.inl (hd.2 rfl)
  have hrun : RUN kd wr z (RX2_typed 900 11 (Int32.ofNat d) 1 0 wA) wA t 0 (amX kd 41 d t) fa (QA kd 41 d t) := p1_aim hT.1 hT.2.1 41 d 900 1 (by omega) (by omega) wA t 0 fa hin (by omega) hdd
  refine J.sub (d' := d) (QM := fun e n uM => gi uM 11 n = -1 ∧ PAM kd uM (hdM stk) 41 (C 0) n d t e) hT hS hst hP hb hs1 hrun (fun h => ⟨t, amX_0 (hk0 h) 41 d⟩) (fun hJ hl => ?_) (fun lv' x t' fa' uA uM n hst' hl' hd' => ?_)
  · obtain ⟨q1, q2⟩ := m_aim (sc := hdM stk) 41 d 900 (hd.2 hl) (by omega) (by have := hd.2 hl; omega) wM t (C 0) hJ.ins
    refine ⟨q1, fun e he => ?_⟩
    obtain ⟨n, u, v1, v2, v3, v4, v5, v8, v9, v10⟩ := q2 e he
    exact ⟨n, u, v1, v2, v3, v4, v5, v10, v8, v9⟩
  · by_cases hlv : lv' = true
    · obtain ⟨y1, y2, y3, y4, y5, y6, y7, ⟨y8, y9⟩, y10⟩ := hl' hlv
      exact H lv' x t' fa' uA uM n hst' (fun _ => ⟨y1, y3, y4, y5, y6, y10, y8, fun fA fM hA hM hE => ⟨fmA_agr 41 d t t' y2 y7 (fun k j a b _ c => hA k j (Or.inr (Or.inr (Or.inl ⟨a, b, c⟩)))), (PAM.agr 41 fM uM _ _ _ _ _ y9).2 (AGR.ext hM (by rw [upC_s]; omega))⟩⟩) hd'
    · exact H lv' x t' fa' uA uM n hst' (fun h => absurd h hlv) hd'
end JT
