/-! BOTH SIDES: places, calls that are STATEMENTS -/
section JT
variable {kd wr nm : Nat → Nat} {vv : Nat → Int64} {m z : Nat} {gA gM : Wd} {lv : Bool} {sl us B : Nat} {stk obl stkF : List Nat} {prs : PRL} {C TK : Nat → Nat} {SL : Nat → List Nat} {t d b : Nat} {fa : Int32} {wA wM : Wd} {γ α : Type} {wd : γ → Wd} {S : γ → α → Wd → Prop} {P : (Nat → Nat) → Nat → Wd → Wd → Prop}
/-- a row in brackets behind the NAME at s: so: the node's sort, c: the sign behind -/
def RWC (kd : Nat → Nat) (sc so : Int32) (c lo n d s e : Nat) (fA fM : Wd) : Prop := d ≤ 39 ∧ gi fM 7 n = so ∧ ∃ xs e1, gi fM 8 n = Int32.ofNat (xs.headD 0) ∧ gi fM 9 n = Int32.ofNat xs.length ∧ rowR kd fM (PWR kd fM sc 41) xs lo (d + 1) (s + 2) e1 ∧ (∀ x ∈ xs, x < n) ∧ kd e1 = c ∧ e = e1 + 1 ∧ rowF kd (xw kd 41 (d + 1)) (fun q => fmW kd fA 41 (d + 1) q) (9000 - (s + 2)) (s + 2)
/-- a VARIABLE before := -/
def PLC (kd : Nat → Nat) (sc : Int32) (lo n d s e : Nat) (fA fM : Wd) : Prop := kd s = 2 ∧ gi fM 12 n = Int32.ofNat s ∧ gi fM 13 n = sc ∧ (kd (s + 1) ≠ 45 ∧ gi fM 7 n = 3 ∧ e = s + 1 ∨ kd (s + 1) = 45 ∧ RWC kd sc 4 46 lo n d s e fA fM)
/-- a call, or a NAME alone -/
def CLC (kd : Nat → Nat) (sc : Int32) (lo n d s e : Nat) (fA fM : Wd) : Prop := kd s = 2 ∧ gi fM 12 n = Int32.ofNat s ∧ gi fM 13 n = sc ∧ (kd (s + 1) ≠ 43 ∧ gi fM 7 n = 3 ∧ e = s + 1 ∨ kd (s + 1) = 43 ∧ RWC kd sc 5 44 lo n d s e fA fM)
theorem RWC.ext {sc so : Int32} {c lo n s e tf : Nat} {Cf : Nat → Nat} {uA uM fA fM : Wd} (hb : br_ kd (xw kd 41 (d + 1)) c (s + 2) = .inr e) (he : e ≤ tf) (hn : n < Cf 0) (hl : lo ≤ n) (h : RWC kd sc so c lo n d s e uA uM) (hA : EXTA Cf tf stk obl uA fA) (hM : EXTL lo Cf stk prs obl n uM fM) : RWC kd sc so c lo n d s e fA fM := by
  obtain ⟨a, b, xs, e1, c1, c2, c3, c4, c5, c6, c7⟩ := h
  have g : ∀ k, (7 ≤ k ∧ k ≤ 10 ∨ k = 12 ∨ k = 13) → gi fM k n = gi uM k n := fun k hk => (hM k n (Or.inl ⟨by omega, hl, hn⟩)).1
  refine ⟨a, by rw [g 7 (by omega)]; exact b, xs, e1, by rw [g 8 (by omega)]; exact c1, by rw [g 9 (by omega)]; exact c2, ?_, c4, c5, c6, ?_⟩
  · refine rowR.agr (PWR.agr 41) xs _ _ _ _ c3 c4 (fun k j hk hl' hj => ?_)
    exact (hM k j (by
      by_cases q : k = 11
      · exact Or.inr (Or.inl ⟨q, hl', by omega, by omega⟩)
      · exact Or.inl ⟨by omega, hl', by omega⟩)).1
  · obtain ⟨e2, h2⟩ := br_rw hb
    have hlt := br_lt (kd := kd) (xw_lt 41 (d + 1)) hb
    have he2 : e2 + 1 = e := by
      unfold br_ at hb
      rw [h2] at hb
      dsimp only at hb
      by_cases q : kd e2 = c
      · rw [if_pos q] at hb; injection hb
      · rw [if_neg q] at hb; exact nomatch hb
    exact rowF_agr (u := fA) (w := uA) (xw_lt 41 (d + 1)) (fun t e => fmW_agr 41 (d + 1) t e) _ _ _ h2 c7 (AG9.ext hA (by omega))
theorem dd_of (hst : STJ kd wr nm vv m z gA gM lv sl us stk prs C TK SL t d b fa wA wM) (hd : d ≤ 41 ∧ (lv = true → d ≤ 40)) : (lv = false → kd t = 0) ∧ (d ≤ 40 ∨ kd t = 0) := by
  have hk0 : lv = false → kd t = 0 := fun h => by
    rcases hst with ⟨q, _⟩ | ⟨_, q, h3⟩
    · rw [h] at q; exact absurd q (by decide)
    · rw [q]; exact h3.1.zk
  refine ⟨hk0, ?_⟩
  cases lv
  · exact Or.inr (hk0 rfl)
  · exact Or.inl (hd.2 rfl)
theorem J.place (hT : TOKS kd wr nm vv m z gA gM) (hS : STBJ stk prs obl P) (hst : STJ kd wr nm vv m z gA gM lv sl us stk prs C TK SL t d b fa wA wM) (hP : lv = true → P C t wA wM) (hd : d ≤ 41 ∧ (lv = true → d ≤ 40)) (hb : 2800 ≤ b) (hs1 : sl ≤ 1) {a2 : Int32}
    {KA : Int32 → Wd → Option γ} {KM : Int32 → Wd → Option (Option α × Wd)}
    (H : ∀ lv' x t' fa' uA uM n, STJ kd wr nm vv m z gA gM lv' 0 us stk prs (upC C 0 (n + 1)) TK SL t' d b fa' uA uM → (lv' = true → lv = true ∧ t < t' ∧ t' ≤ m ∧ C 0 ≤ n ∧ n + 1 + t ≤ C 0 + t' ∧ P (upC C 0 (n + 1)) t' uA uM ∧ gi uM 11 n = -1 ∧ PLC kd (hdM stk) (C 0) n d t t' uA uM ∧ FACT stk prs obl (C 0) (upC C 0 (n + 1)) t' n (PLC kd (hdM stk) (C 0) n d t t') uA uM) → (lv' = false → t' = z - 1) → GLJ kd wr nm z gA gM wd lv' stkF fa' B (KA x uA) (KM (Int32.ofNat n) uM) S) :
    GLJ kd wr nm z gA gM wd lv stkF fa B (bn2 (RX2_typed 900 7 (Int32.ofNat d) a2 0 wA) KA) (be (RX12_variable 900 0 0 0 0 wM) KM) S := by
  have hin := hst.in1
  obtain ⟨hk0, hdd⟩ := dd_of hst hd
  have hE := ex1_all hT.1 hT.2.1 41
  have hrun : RUN kd wr z (RX2_typed 900 7 (Int32.ofNat d) a2 0 wA) wA t 0 (plX kd 41 d t) fa (fun _ e u => kd (t + 1) = 45 → rowF kd (xw kd 41 (d + 1)) (fun s => fmW kd u 41 (d + 1) s) (9000 - (t + 2)) (t + 2)) :=
    p1_place (rc := RX2_typed 898) hT.1 (fun a2 => a2_tQ (rc := RX2_typed 897) (hE 897 (d + 1) (by omega) (by omega))) (RX2_typed 899) (fun _ _ _ _ => rfl) hin hdd (by omega)
  have hpl0 : kd t ≠ 2 → plX kd 41 d t = .inl t := fun q => if_neg q
  refine J.sub (d' := d) (QM := fun e n uM => gi uM 11 n = -1 ∧ gi uM 12 n = Int32.ofNat t ∧ gi uM 13 n = hdM stk ∧ (kd (t + 1) ≠ 45 ∧ gi uM 7 n = 3 ∧ e = t + 1 ∨ kd (t + 1) = 45 ∧ d ≤ 39 ∧ gi uM 7 n = 4 ∧ ∃ xs e1, gi uM 8 n = Int32.ofNat (xs.headD 0) ∧ gi uM 9 n = Int32.ofNat xs.length ∧ rowR kd uM (PWR kd uM (hdM stk) 41) xs (C 0) (d + 1) (t + 2) e1 ∧ (∀ x ∈ xs, x < n) ∧ kd e1 = 46 ∧ e = e1 + 1)) hT hS hst hP hb hs1 hrun (fun h => ⟨t, hpl0 (by rw [hk0 h]; omega)⟩) (fun hJ hl => ?_) (fun lv' x t' fa' uA uM n hst' hl' hd' => ?_)
  · have hd40 := hd.2 hl
    have hI := hJ.ins
    by_cases q2 : kd t = 2
    · obtain ⟨v1, v2⟩ := m_variable (rc := RX12_variable 899) (rc' := RX12_variable 898) (k := 41) (fun _ _ => rfl) (fun h => fun_id (m_whole 41 (d + 1) 897 h (by omega) (by omega)) (fun w => rfl)) (dp_expr (by omega)) hd40 hI q2
      by_cases q45 : kd (t + 1) = 45
      · obtain ⟨g1, g2⟩ := v1 q45
        have hpl : plX kd 41 d t = (if 40 ≤ d then .inl (t + 2) else br_ kd (xw kd 41 (d + 1)) 46 (t + 2)) := by
          unfold plX
          rw [if_pos q2, if_pos q45]
        rw [hpl]
        by_cases q40 : 40 ≤ d
        · rw [if_pos q40]
          refine ⟨fun p hp => ?_, fun e he => nomatch he⟩
          injection hp with hp
          rw [← hp]
          exact g1 (by omega)
        · rw [if_neg q40]
          obtain ⟨f1, f2⟩ := g2 (by omega)
          refine ⟨f1, fun e he => ?_⟩
          obtain ⟨xs, u, nn, e1, w1, w2, w3, w4, w5, w6, w7, w8, w9, w10, w11, w12, w13, w14, w15, w16⟩ := f2 e he
          exact ⟨nn, u, w1, w2, w3, w4, by omega, w16, w9, w10, w11, Or.inr ⟨q45, by omega, w6, xs, e1, w7, w8, w12, w13, w14, w15⟩⟩
      · obtain ⟨u, w1, w2, w3, w4, w5, w6, w7, w8⟩ := v2 q45
        have hpl : plX kd 41 d t = .inr (t + 1) := by
          unfold plX
          rw [if_pos q2, if_neg q45]
        rw [hpl]
        refine ⟨(fun p hp => nomatch hp), fun e he => ?_⟩
        injection he with he
        subst he
        exact ⟨C 0, u, w1, w2, w3, Nat.le_refl _, by omega, w8, w5, w6, w7, Or.inl ⟨q45, w4, rfl⟩⟩
    · rw [hpl0 q2]
      refine ⟨fun p hp => ?_, fun e he => nomatch he⟩
      injection hp with hp
      subst hp
      refine ⟨si wM 0 9 (Int32.ofNat (wr t)), ?_, gi_si0 _ _ _ _, OFF.si (Or.inl ⟨rfl, by omega⟩)⟩
      show fX12_variable (RX12_variable 899) wM = _
      unfold fX12_variable
      rw [m_expect_no (x := 285) hJ.2.1 (k := 2) rfl (by omega) (Or.inr q2) (by omega), be_no]
  · by_cases hlv : lv' = true
    · obtain ⟨y1, y2, y3, y4, y5, y6, y7, ⟨y8, y9, y10, y11⟩, y12⟩ := hl' hlv
      have q2 : kd t = 2 := by
        by_cases q2 : kd t = 2
        · exact q2
        · rw [hpl0 q2] at y2; exact nomatch y2
      have hP1 : PLC kd (hdM stk) (C 0) n d t t' uA uM := by
        refine ⟨q2, y9, y10, ?_⟩
        rcases y11 with y11 | ⟨q45, q39, w6, xs, e1, w7, w8, w12, w13, w14, w15⟩
        · exact Or.inl y11
        · exact Or.inr ⟨q45, q39, w6, xs, e1, w7, w8, w12, w13, w14, w15, y7 q45⟩
      refine H lv' x t' fa' uA uM n hst' (fun _ => ⟨y1, y3, y4, y5, y6, y12, y8, hP1, fun fA fM hA hM hE => ?_⟩) hd'
      obtain ⟨p1, p2, p3, p4⟩ := hP1
      have g : ∀ k, (7 ≤ k ∧ k ≤ 10 ∨ k = 12 ∨ k = 13) → gi fM k n = gi uM k n := fun k hk => (hM k n (Or.inl ⟨by omega, y5, by rw [upC_s]; omega⟩)).1
      refine ⟨p1, by rw [g 12 (by omega)]; exact p2, by rw [g 13 (by omega)]; exact p3, ?_⟩
      rcases p4 with p4 | ⟨q45, p4⟩
      · exact Or.inl ⟨p4.1, by rw [g 7 (by omega)]; exact p4.2.1, p4.2.2⟩
      · refine Or.inr ⟨q45, RWC.ext ?_ (Nat.le_refl _) (by rw [upC_s]; omega) y5 p4 hA hM⟩
        unfold plX at y2
        rw [if_pos q2, if_pos q45] at y2
        by_cases q40 : 40 ≤ d
        · rw [if_pos q40] at y2; exact nomatch y2
        · rw [if_neg q40] at y2; exact y2
    · exact H lv' x t' fa' uA uM n hst' (fun h => absurd h hlv) hd'
/-- a NAME that is a STATEMENT, its ACTUALS if there are -/
def clX (kd : Nat → Nat) (d t : Nat) : Sum Nat Nat := if kd (t + 1) = 43 then (if 40 ≤ d then .inl (t + 2) else br_ kd (xw kd 41 (d + 1)) 44 (t + 2)) else .inr (t + 1)
theorem J.callst (hT : TOKS kd wr nm vv m z gA gM) (hS : STBJ stk prs obl P) (hst : STJ kd wr nm vv m z gA gM lv sl us stk prs C TK SL t d b fa wA wM) (hP : lv = true → P C t wA wM) (hd : d ≤ 40) (hb : 2800 ≤ b) (hs1 : sl ≤ 1) (hk : kd t = 2) (hk2 : kd (t + 1) ≠ 45)
    {KA : Int32 → Wd → Option γ} {KM : Int32 → Wd → Option (Option α × Wd)} {rM : Option (Option Int32 × Wd)} (hrM : rM = if kd (t + 1) = 43 then RX12_variable 900 2 0 0 0 wM else RX12_variable 900 0 0 0 0 wM)
    (H : ∀ lv' x t' fa' uA uM n, STJ kd wr nm vv m z gA gM lv' 0 us stk prs (upC C 0 (n + 1)) TK SL t' d b fa' uA uM → (lv' = true → lv = true ∧ t < t' ∧ t' ≤ m ∧ C 0 ≤ n ∧ n + 1 + t ≤ C 0 + t' ∧ P (upC C 0 (n + 1)) t' uA uM ∧ gi uM 11 n = -1 ∧ CLC kd (hdM stk) (C 0) n d t t' uA uM ∧ FACT stk prs obl (C 0) (upC C 0 (n + 1)) t' n (CLC kd (hdM stk) (C 0) n d t t') uA uM) → (lv' = false → t' = z - 1) → GLJ kd wr nm z gA gM wd lv' stkF fa' B (KA x uA) (KM (Int32.ofNat n) uM) S) :
    GLJ kd wr nm z gA gM wd lv stkF fa B (bn2 (RX2_typed 900 8 (Int32.ofNat d) 0 (Int32.ofNat t) (si wA 4 9 (Int32.ofNat (t + 1)))) KA) (be rM KM) S := by
  have hin := hst.in1
  have hE := ex1_all hT.1 hT.2.1 41
  have hlv1 := (hst.live (by omega)).1
  obtain ⟨e1, e2⟩ := a_take (k := 2) hin.1 (by omega) (by rw [hk]; rfl)
  have hO : OFF (fun k j => k = 4 ∧ (j = 9 ∨ j = 10)) (si wA 4 9 (Int32.ofNat (t + 1))) wA := OFF.si ⟨rfl, Or.inl rfl⟩
  have h1 := hin.tok hO e2
  have hrun : RUN kd wr z (RX2_typed 900 8 (Int32.ofNat d) 0 (Int32.ofNat t) (si wA 4 9 (Int32.ofNat (t + 1)))) wA t 0 (clX kd d t) fa (fun _ _ u => kd (t + 1) = 43 → rowF kd (xw kd 41 (d + 1)) (fun s => fmW kd u 41 (d + 1) s) (9000 - (t + 2)) (t + 2)) := by
    refine RUN.tr (t := t + 1) ?_ (LOW.tk hO) (hO.mono (fun _ _ hp => PE1.tk hp)) (by omega)
    unfold clX
    by_cases q43 : kd (t + 1) = 43
    · rw [if_pos q43]
      exact (ca_all (rc := RX2_typed 899) (a3 := Int32.ofNat t) hT.1 (a2_actual (rc := RX2_typed 898) (hE 898 (d + 1) (by omega) (by omega))) h1 q43 hd (by omega)).mono (fun x e u _ _ hq _ => hq)
    · rw [if_neg q43]
      show RUN kd wr z (fX2_call (RX2_typed 899) (Int32.ofNat d) 0 (Int32.ofNat t) (si wA 4 9 (Int32.ofNat (t + 1)))) _ _ _ _ _ _
      unfold fX2_call
      rw [lt2q, ltq]
      have hp : OFF PRE (fX0_put__ 41 (si wA 4 9 (Int32.ofNat (t + 1)))).2 (si wA 4 9 (Int32.ofNat (t + 1))) := e_put__
      have h2 := h1.off hp PRE.ok
      rw [a_kind h2.1, if_neg (show ¬ (Int32.ofNat (kd (t + 1)) = 43) from of_ne (k := 43) (by have := hin.k50 (t + 1); omega) (by omega) q43)]
      obtain ⟨u, u1, u2⟩ := ca_131 (rc := RX2_typed 899) (a3 := Int32.ofNat t) (a4 := 0) h2.s0
      rw [u1]
      exact RUN.done h1 (OFF.tr u2 hp) (fun q => absurd q q43)
  refine J.sub (d' := d) (QM := fun e n uM => gi uM 11 n = -1 ∧ gi uM 12 n = Int32.ofNat t ∧ gi uM 13 n = hdM stk ∧ (kd (t + 1) ≠ 43 ∧ gi uM 7 n = 3 ∧ e = t + 1 ∨ kd (t + 1) = 43 ∧ d ≤ 39 ∧ gi uM 7 n = 5 ∧ ∃ xs e1, gi uM 8 n = Int32.ofNat (xs.headD 0) ∧ gi uM 9 n = Int32.ofNat xs.length ∧ rowR kd uM (PWR kd uM (hdM stk) 41) xs (C 0) (d + 1) (t + 2) e1 ∧ (∀ x ∈ xs, x < n) ∧ kd e1 = 44 ∧ e = e1 + 1)) hT hS hst hP hb hs1 hrun (fun h => by rw [hlv1] at h; exact absurd h (by decide)) (fun hJ hl => ?_) (fun lv' x t' fa' uA uM n hst' hl' hd' => ?_)
  · have hI := hJ.ins
    rw [hrM]
    unfold clX
    by_cases q43 : kd (t + 1) = 43
    · rw [if_pos q43, if_pos q43]
      obtain ⟨g1, g2⟩ := m_call (rc := RX12_variable 899) (k := 41) (fun h => fun_id (m_whole 41 (d + 1) 898 h (by omega) (by omega)) (fun w => rfl)) (dp_expr (by omega)) hd hI hk q43
      by_cases q40 : 40 ≤ d
      · rw [if_pos q40]
        refine ⟨fun p hp => ?_, fun e he => nomatch he⟩
        injection hp with hp
        rw [← hp]
        exact g1 (by omega)
      · rw [if_neg q40]
        obtain ⟨f1, f2⟩ := g2 (by omega)
        refine ⟨f1, fun e he => ?_⟩
        obtain ⟨xs, u, nn, e1, w1, w2, w3, w4, w5, w6, w7, w8, w9, w10, w11, w12, w13, w14, w15, w16⟩ := f2 e he
        exact ⟨nn, u, w1, w2, w3, w4, by omega, w16, w9, w10, w11, Or.inr ⟨q43, by omega, w6, xs, e1, w7, w8, w12, w13, w14, w15⟩⟩
    · rw [if_neg q43, if_neg q43]
      obtain ⟨v1, v2⟩ := m_variable (rc := RX12_variable 899) (rc' := RX12_variable 898) (k := 41) (fun _ _ => rfl) (fun h => fun_id (m_whole 41 (d + 1) 897 h (by omega) (by omega)) (fun w => rfl)) (dp_expr (by omega)) hd hI hk
      obtain ⟨u, w1, w2, w3, w4, w5, w6, w7, w8⟩ := v2 hk2
      refine ⟨(fun p hp => nomatch hp), fun e he => ?_⟩
      injection he with he
      subst he
      exact ⟨C 0, u, w1, w2, w3, Nat.le_refl _, by omega, w8, w5, w6, w7, Or.inl ⟨q43, w4, rfl⟩⟩
  · by_cases hlv : lv' = true
    · obtain ⟨y1, y2, y3, y4, y5, y6, y7, ⟨y8, y9, y10, y11⟩, y12⟩ := hl' hlv
      have hP1 : CLC kd (hdM stk) (C 0) n d t t' uA uM := by
        refine ⟨hk, y9, y10, ?_⟩
        rcases y11 with y11 | ⟨q45, q39, w6, xs, e1, w7, w8, w12, w13, w14, w15⟩
        · exact Or.inl y11
        · exact Or.inr ⟨q45, q39, w6, xs, e1, w7, w8, w12, w13, w14, w15, y7 q45⟩
      refine H lv' x t' fa' uA uM n hst' (fun _ => ⟨y1, y3, y4, y5, y6, y12, y8, hP1, fun fA fM hA hM hE => ?_⟩) hd'
      obtain ⟨p1, p2, p3, p4⟩ := hP1
      have g : ∀ k, (7 ≤ k ∧ k ≤ 10 ∨ k = 12 ∨ k = 13) → gi fM k n = gi uM k n := fun k hk => (hM k n (Or.inl ⟨by omega, y5, by rw [upC_s]; omega⟩)).1
      refine ⟨p1, by rw [g 12 (by omega)]; exact p2, by rw [g 13 (by omega)]; exact p3, ?_⟩
      rcases p4 with p4 | ⟨q45, p4⟩
      · exact Or.inl ⟨p4.1, by rw [g 7 (by omega)]; exact p4.2.1, p4.2.2⟩
      · refine Or.inr ⟨q45, RWC.ext ?_ (Nat.le_refl _) (by rw [upC_s]; omega) y5 p4 hA hM⟩
        unfold clX at y2
        rw [if_pos q45] at y2
        by_cases q40 : 40 ≤ d
        · rw [if_pos q40] at y2; exact nomatch y2
        · rw [if_neg q40] at y2; exact y2
    · exact H lv' x t' fa' uA uM n hst' (fun h => absurd h hlv) hd'
end JT
