/-! BOTH SIDES: a NAME is declared, as a step -/
section JT
variable {kd wr nm : Nat → Nat} {vv : Nat → Int64} {m z : Nat} {gA gM : Wd} {lv : Bool} {sl us B : Nat} {stk obl stkF : List Nat} {prs : PRL} {C TK : Nat → Nat} {SL : Nat → List Nat} {t d b : Nat} {fa : Int32} {wA wM : Wd} {γ α : Type} {wd : γ → Wd} {S : γ → α → Wd → Prop} {P : (Nat → Nat) → Nat → Wd → Wd → Prop}
/-- symbol i is procedure p's, and one of SCOPE s's (where no fault is noted) -/
def DC1 (fA fM : Wd) (i s p : Nat) : Prop := gi fM 23 i = Int32.ofNat p ∧ (gi fM 0 10 = 0 → gi fA 29 (i + 1) = Int32.ofNat (s + 1)) ∧ NIL fM i s
theorem DC1.ext {a c a' c' : Wd} {i s p : Nat} (h : DC1 a c i s p) (g23 : gi c' 23 i = gi c 23 i) (g29 : gi a' 29 (i + 1) = gi a 29 (i + 1)) (hE : EXF c c') : DC1 a' c' i s p := ⟨g23.trans h.1, fun h0 => g29.trans (h.2.1 (Classical.byContradiction fun hc => hE.1 hc h0)), h.2.2.ext hE.2.1 hE.1⟩
theorem DC1.nw {a c : Wd} {i s p : Nat} {X Y : Prop} (h23 : gi c 23 i = Int32.ofNat p) (hd : (X ∧ gi c 0 10 ≠ 0 ∨ Y ∧ gi a 29 (i + 1) = Int32.ofNat (s + 1)) ∧ NIL c i s) : DC1 a c i s p := ⟨h23, fun h0 => by
  rcases hd.1 with ⟨_, h⟩ | ⟨_, h⟩
  · exact absurd h0 h
  · exact h, hd.2⟩
/-- what the tables have of a symbol that is just declared -/
def NEW (i t l pr sort kind : Nat) (type : Int32) (wA wM : Wd) : Prop :=
  (gi wA 21 (i + 1) = Int32.ofNat t ∧ gi wA 14 (i + 1) = Int32.ofNat sort ∧ gi wA 15 (i + 1) = type ∧ gi wA 17 (i + 1) = Int32.ofNat l ∧ gi wA 16 (i + 1) = 0 ∧ gi wA 18 (i + 1) = 0 ∧ gi wA 19 (i + 1) = 0 ∧ gi wA 20 (i + 1) = 0 ∧ gi wA 23 (i + 1) = 0 ∧ gi wA 24 (i + 1) = 0 ∧ gi wA 25 t = Int32.ofNat (i + 1)) ∧
  (gi wM 19 i = Int32.ofNat kind ∧ gi wM 20 i = type ∧ gi wM 22 i = Int32.ofNat t ∧ gi wM 23 i = Int32.ofNat pr ∧ gi wM 24 i = 0 ∧ gi wM 25 i = -1 ∧ gi wM 27 i = 0 ∧ gi wM 28 i = 0 ∧ gi wM 30 pr = Int32.ofNat l)
def dcC (C : Nat → Nat) (sort : Nat) : Nat → Nat := upC (upC C 1 (C 1 + 1)) 6 (C 6 + (if sort = 3 then 1 else 0))
theorem dcC_1 {sort : Nat} : dcC C sort 1 = C 1 + 1 := by
  unfold dcC
  rw [upC_n (by omega), upC_s]
theorem dcC_6 {sort : Nat} : dcC C sort 6 = C 6 + (if sort = 3 then 1 else 0) := upC_s
theorem dcC_n {sort i : Nat} (h1 : i ≠ 1) (h6 : i ≠ 6) : dcC C sort i = C i := by
  unfold dcC
  rw [upC_n h6, upC_n h1]
theorem dcC_le {sort : Nat} : LEC C (dcC C sort) := fun i => by
  by_cases q1 : i = 1
  · rw [q1, dcC_1]; omega
  · by_cases q6 : i = 6
    · rw [q6, dcC_6]; omega
    · rw [dcC_n q1 q6]; exact Nat.le_refl _
theorem NST.agr2 {C C' : Nat → Nat} {uA uM wA wM : Wd} (hC : LEC C C') : ∀ {prs : PRL}, NST C wA wM prs → (∀ l, l < prs.length → gi uA 36 l = gi wA 36 l ∧ gi uA 38 l = gi wA 38 l) → (∀ y ∈ prs, gi uM 35 y.1 = gi wM 35 y.1 ∧ gi uM 34 y.1 = gi wM 34 y.1 ∧ gi uM 30 y.1 = gi wM 30 y.1 ∧ gi uM 37 y.1 = gi wM 37 y.1) → NST C' uA uM prs := by
  intro prs
  induction prs with
  | nil => exact fun _ _ _ => trivial
  | cons x r ih =>
    obtain ⟨p, sg, q⟩ := x
    intro h hA hM
    obtain ⟨a1, a2, ⟨n, a3, a4, a5⟩, a6, a7, a8, a9, a10, a11, a12⟩ := h
    have hl := hA r.length (by simp)
    have hp := hM (p, sg, q) List.mem_cons_self
    have h1 := hC 1
    have h4 := hC 4
    exact ⟨hl.1.trans a1, hp.1.trans a2, ⟨n, hl.2.trans a3, hp.2.1.trans a4, by omega⟩, hp.2.2.1.trans a6, by omega, hp.2.2.2.trans a8, a9, by have := hC 3; have := hC 0; omega, by have := hC 3; omega, ih a12 (fun l hl => hA l (by simp; omega)) (fun y hy => hM y (List.mem_cons_of_mem _ hy))⟩
theorem J.declare (hT : TOKS kd wr nm vv m z gA gM) {s : Nat} (hS : STBJ (s :: stk) prs obl P) (hst : STJ kd wr nm vv m z gA gM lv 0 us (s :: stk) prs C TK SL t d b fa wA wM) (hP : lv = true → P C t wA wM) (hb : 2800 ≤ b) {sort kind : Nat} {type : Int32} (hso : sort ≤ 5) (hki : kind ≤ 6) (h44 : sort = 4 ↔ kind = 4) {rT : Option (Option Int32 × Wd)} (hrT : lv = true → (kd t = 2 → rT = some (some (Int32.ofNat t), si wM 0 7 (Int32.ofNat (t + 1)))) ∧ (kd t ≠ 2 → rT = some (none, si wM 0 9 (Int32.ofNat (wr t))))) {SC : Wd → Int32} (hSC : lv = true → SC (si wM 0 7 (Int32.ofNat (t + 1))) = Int32.ofNat s)
    {KA : Int32 → Wd → Option γ} {KM : Int32 → Int32 → Wd → Option (Option α × Wd)}
    (H : ∀ lv' t' fa' x uA uM TK' SL', STJ kd wr nm vv m z gA gM lv' 1 us (s :: stk) prs (dcC C sort) TK' SL' t' d b fa' uA uM → (lv' = true → lv = true ∧ kd t = 2 ∧ t' = t + 1 ∧ t + 1 ≤ m ∧ x = Int32.ofNat (C 1 + 1) ∧ TK' = upF TK (C 1) t ∧ ((SL' = SL ∧ gi uM 0 10 ≠ 0 ∨ SL' = upS SL s (C 1) ∧ gi uA 29 (C 1 + 1) = Int32.ofNat (s + 1)) ∧ NIL uM (C 1) s) ∧ P (dcC C sort) t' uA uM ∧ ∃ l pr sg q r, prs = (pr, sg, q) :: r ∧ l = r.length ∧ NEW (C 1) t l pr sort kind type uA uM ∧ gi uA 36 l = Int32.ofNat sg ∧ gi uM 35 pr = Int32.ofNat q) → (lv' = false → t' = z - 1) → GLJ kd wr nm z gA gM wd lv' stkF fa' B (KA x uA) (KM (Int32.ofNat t) (Int32.ofNat (C 1)) uM) S) :
    GLJ kd wr nm z gA gM wd lv stkF fa B (lt2 (fX4_declared (Int32.ofNat sort) type wA) KA) (be rT fun x w2 => bn2 (fX12_declare (SC w2) x (Int32.ofNat kind) type w2) (KM x)) S := by
  have hin := hst.in1
  have htz := hin.tz
  have hz9 := hin.z9
  -- where it fails
  have hbad : ∀ (fa0 fa' : Int32), fa0 = fa → kd t ≠ 2 → CT kd wr true z (fX9_need (Int32.ofNat 2) wA) (z - 1) fa' → 0 ≤ fa' → ∃ x, fX4_declared (Int32.ofNat sort) type wA = (x, fX9_need (Int32.ofNat 2) wA) := by
    intro fa0 fa' _ hk hc hf
    obtain ⟨_, _, n3⟩ := a_need hin.1 (k := 2) (by omega) (by omega)
    unfold fX4_declared
    rw [ltq, a_at hin.1]
    show ∃ x, (lt (fX9_need (Int32.ofNat 2) wA) fun w2 => _) = _
    rw [ltq, if_pos ((n3 3 5 (by omega)).1.trans hin.2.1)]
    have hfail : fX9_failed (fX9_need (Int32.ofNat 2) wA) = true := by
      unfold fX9_failed
      rw [hc.2.2.2.2.2.2.2.2.1, if_neg (by rw [Int32.not_lt]; exact hf)]
    rw [ltq, hfail, if_pos rfl]
    exact ⟨_, rfl⟩
  obtain ⟨n1, n2, n3⟩ := a_need hin.1 (k := 2) (by omega) (by omega)
  rcases hst with ⟨h1, h2, h3⟩ | ⟨h1, h2, h3⟩
  · subst h1
    subst h2
    obtain ⟨y1, y2⟩ := hrT rfl
    have hJ := h3
    obtain ⟨i1, i2, i3, i4, i5, ⟨b0, b1, b2, b3, b4, b5, b6, b7⟩, i7, ⟨r1, r2, r3, r4, r5⟩, i9, ⟨c1, c2, c3, c4, c5, c6, c7⟩, i11, ⟨l, l1, l2, l3, pr, sg, q, r, l4, l5⟩, i13, i14, i15⟩ := h3
    by_cases hk : kd t = 2
    · have htm : t < m := i2.lt (by omega)
      have hw := hT.1 t
      have hw1 := hT.2.2.2.2.2.2.1 t htm
      have hwl : wlN (kd t) = 1 := by rw [hk]; rfl
      have hlr : l = r.length := by rw [l4] at l1; simp at l1; omega
      have hN := i13
      rw [l4] at hN
      obtain ⟨s1, s2, ⟨n, s3, s4, s5⟩, s6, s7, s8, s9, s10, s11, s12⟩ := hN
      rw [← hlr] at s1 s3 s6
      have hgl7 : (gl wA 7 t).toInt32 = Int32.ofNat (nm t) := by
        rw [(i3 7 t (by unfold PAA; omega)).2]
        exact hT.2.2.2.2.2.2.2.1 t htz hk
      have hgl4 : gl wM 4 t = vv (nm t) := by
        rw [(i4 4 t (by unfold PMM; omega)).2]
        exact hT.2.2.2.2.2.2.2.2 t htm hk
      obtain ⟨u, u1, u2, u3, u4, u5, u6, u7, u8, u9, u10, u11⟩ := a_declare (f := fun i => nm (TK i)) (sort := sort) (type := type) hin hk i7 (by omega) c7 hgl7 (hT.2.2.2.2.1 t) l2 l3 s3 (by omega) hso
      have hsm1 := i2.goT (t' := t + 1) (by omega)
      have hO7 : OFF (fun k j => k = 0 ∧ j = 7) (si wM 0 7 (Int32.ofNat (t + 1))) wM := OFF.si ⟨rfl, rfl⟩
      have h31 := r3.2.1
      have hsl := i7.2.2.2.2.2.1 s
      obtain ⟨v, v1, v2, v3, v4, v5, v6, v7, v8⟩ := m_declare (vv := vv) (f := fun i => nm (TK i)) (kind := kind) (type := type) (x := nm t) (s := s) (L := SL s) (n := n) (pr := pr) (C1 := C 1) (C2 := C 2) hsm1 (t := t) (by omega) (by rw [(hO7 0 42 (by omega)).1]; exact r2) (by omega) (by rw [(hO7 0 30 (by omega)).1]; exact l5) (by omega) (by rw [(hO7 34 pr (by omega)).1]; exact s4) (by omega) hki (by omega) (fun i hi => by rw [(hO7 18 i (by omega)).2]; exact r5 i hi) (fun i _ => hT.2.2.2.2.2.1 (TK i) t) (by rw [(hO7 16 s (by omega)).1]; exact (r4 s h31).agr (fun i _ => (hO7 21 i (by omega)).1)) (fun i hi => (hsl.2.2 i hi).1) (by have := hsl.2.1; omega) (by rw [(hO7 4 t (by omega)).2]; exact hgl4)
      rw [u1, lt2q, y1 hk, be_so]
      show GLJ _ _ _ _ _ _ _ _ _ _ _ _ (bn2 (fX12_declare (SC (si wM 0 7 (Int32.ofNat (t + 1)))) (Int32.ofNat t) (Int32.ofNat kind) type (si wM 0 7 (Int32.ofNat (t + 1)))) (KM (Int32.ofNat t))) _
      rw [hSC rfl, v1, bn2_so]
      have hOA := u9
      have hOM : OFF (fun k j => (k = 0 ∧ (j = 7 ∨ j = 42 ∨ j = 10 ∨ j = 11)) ∨ (18 ≤ k ∧ k ≤ 28 ∧ k ≠ 26 ∧ j = C 1) ∨ (k = 34 ∧ j = pr) ∨ (k = 16 ∧ j = s)) v wM := OFF.tr (v8.mono (fun k j hp => by omega)) (hO7.mono (fun k j hp => by omega))
      have hTK0 : ∀ i, i < C 1 → upF TK (C 1) t i = TK i := fun i hi => if_neg (by omega)
      have fM0 : ∀ k j, ¬ ((k = 0 ∧ (j = 7 ∨ j = 42 ∨ j = 10 ∨ j = 11)) ∨ (18 ≤ k ∧ k ≤ 28 ∧ k ≠ 26 ∧ j = C 1) ∨ (k = 34 ∧ j = pr) ∨ (k = 16 ∧ j = s)) → gi v k j = gi wM k j := fun k j hkk => (hOM k j hkk).1
      have hSLi : ∀ s' i, i ∈ (if fnd (fun i => nm (TK i)) (nm t) (SL s) = 0 then upS SL s (C 1) else SL) s' → (s' = s ∧ i = C 1) ∨ i ∈ SL s' := fun s' i hi => by
        split at hi
        · by_cases qs : s' = s
          · rw [qs, show upS SL s (C 1) s = C 1 :: SL s from if_pos rfl] at hi
            rcases List.mem_cons.mp hi with q | q
            · exact Or.inl ⟨qs, q⟩
            · exact Or.inr (by rw [qs]; exact q)
          · rw [show upS SL s (C 1) s' = SL s' from if_neg qs] at hi
            exact Or.inr hi
        · exact Or.inr hi
      have hbL : ∀ s, ∀ i ∈ SL s, i < 9000 := fun s i hi => by have := ((i7.2.2.2.2.2.1 s).2.2 i hi).1; omega
      have hbL' : ∀ s', ∀ i ∈ (if fnd (fun i => nm (TK i)) (nm t) (SL s) = 0 then upS SL s (C 1) else SL) s', i < 9000 := fun s' i hi => by
        rcases hSLi s' i hi with q | q
        · omega
        · exact hbL s' i q
      have hRv : RSC nm vv (dcC C sort) (upF TK (C 1) t) (if fnd (fun i => nm (TK i)) (nm t) (SL s) = 0 then upS SL s (C 1) else SL) (s :: stk) v := by
        unfold RSC
        rw [dcC_1, dcC_n (by omega) (by omega), fM0 0 28 (by omega)]
        refine ⟨r1, v2, r3.agr (Nat.le_refl _) (fun s' hs' => fM0 14 s' (by omega)), fun s' hs' => ?_, fun i hi => ?_⟩
        · by_cases qs : s' = s
          · rw [qs]
            have : (if fnd (fun i => nm (TK i)) (nm t) (SL s) = 0 then upS SL s (C 1) else SL) s = (if fnd (fun i => nm (TK i)) (nm t) (SL s) = 0 then C 1 :: SL s else SL s) := by
              split
              · exact if_pos rfl
              · rfl
            rw [this]
            exact v7
          · have : (if fnd (fun i => nm (TK i)) (nm t) (SL s) = 0 then upS SL s (C 1) else SL) s' = SL s' := by
              split
              · exact if_neg qs
              · rfl
            rw [this, fM0 16 s' (by omega)]
            exact (r4 s' hs').agr (fun i hi' => fM0 21 i (by have := ((i7.2.2.2.2.2.1 s').2.2 i hi').1; omega))
        · by_cases qi : i = C 1
          · rw [qi, v3]
            show vv (nm t) = vv (nm (if C 1 = C 1 then t else TK (C 1)))
            rw [if_pos rfl]
          · rw [hTK0 i (by omega), (hOM 18 i (by omega)).2]
            exact r5 i (by omega)
      have hstep : STEP C t (s :: stk) prs obl wA wM (dcC C sort) (t + 1) u v := by
        refine ⟨dcC_le, by omega, fun k j hkk => ?_, fun k j hkk => hOM k j ?_, ?_⟩
        · rcases hkk with q | q | q | q | q | q | q
          · exact (hOA k j (by omega)).1
          · exact (hOA k j (by omega)).1
          · exact (hOA k j (by omega)).1
          · exact u10 k j q.1 q.2.1 q.2.2
          · rw [q.1]; exact u11 j (q.2.2 s List.mem_cons_self)
          · exact (hOA k j (by omega)).1
          · exact (hOA k j (by omega)).1
        · have hns : k = 16 → j ≠ s := fun hk16 hjs => by
            rcases hkk with q | q | q | q | q | q | q | q | q
            · omega
            · omega
            · omega
            · exact q.2.2 (by rw [hjs]; exact List.mem_cons_self)
            · omega
            · omega
            · omega
            · omega
            · omega
          rcases hkk with q | q | q | q | q | q | q | q | q <;> omega
        · refine ⟨?_, RSC.exl (stk := s :: stk) (stk' := s :: stk) ⟨r1, r2, r3, r4, r5⟩ hRv (by rw [dcC_1]; omega) (by rw [dcC_n (by omega) (by omega)]; exact Nat.le_refl _) (by rw [dcC_1]; omega) (by rw [dcC_n (by omega) (by omega)]; omega) hbL hbL' (fun s' i hs hi hm => ⟨by rw [dcC_n (by omega) (by omega)] at hs; exact hs, ?_⟩) (fun s' => ?_), EXS.off hOM (fun k j hk => by omega)⟩
          · have hX : (gi wM 0 10 ≠ 0 → gi (si wM 0 7 (Int32.ofNat (t + 1))) 0 10 ≠ 0) := fun hh => by rw [(hO7 0 10 (by omega)).1]; exact hh
            have hY : (FLM (si wM 0 7 (Int32.ofNat (t + 1)))).1 ≠ 0 → (if fnd (fun i => nm (TK i)) (nm t) (SL s) = 0 then FLM (si wM 0 7 (Int32.ofNat (t + 1))) else FN (FLM (si wM 0 7 (Int32.ofNat (t + 1)))) 3 (Int32.ofNat (wr t))).1 ≠ 0 := fun hh => by
              split
              · exact hh
              · exact FN_ne (by decide)
            intro h0
            have hh := hX h0
            show (FLM v).1 ≠ 0
            rw [v6]
            split
            · exact FN_ne (by decide)
            · exact hY hh
          · rcases hSLi s' i hm with q | q
            · omega
            · exact q
          · split
            · unfold upS
              try dsimp only
              split
              · rename_i e
                rw [e]; exact List.suffix_cons _ _
              · exact List.suffix_refl _
            · exact List.suffix_refl _
      have hfx : (fun i => nm (upF TK (C 1) t i)) = upF (fun i => nm (TK i)) (C 1) (nm t) := by
        funext i
        show nm (if i = C 1 then t else TK i) = if i = C 1 then nm t else nm (TK i)
        split <;> rfl
      have hSLq : (if fnd (fun i => nm (TK i)) (nm t) (SL s) = 0 then upS SL s (C 1) else SL) = SL ∧ gi v 0 10 ≠ 0 ∨ (if fnd (fun i => nm (TK i)) (nm t) (SL s) = 0 then upS SL s (C 1) else SL) = upS SL s (C 1) ∧ gi u 29 (C 1 + 1) = Int32.ofNat (s + 1) := by
        have h29 := u3.2.2.2.2.2.1 s
        by_cases q : fnd (fun i => nm (TK i)) (nm t) (SL s) = 0
        · rw [if_pos q] at h29 ⊢
          have hm : C 1 ∈ upS SL s (C 1) s := by
            rw [show upS SL s (C 1) s = C 1 :: SL s from if_pos rfl]
            exact List.mem_cons_self
          exact Or.inr ⟨rfl, (h29.2.2 (C 1) hm).2.2⟩
        · rw [if_neg q]
          refine Or.inl ⟨rfl, ?_⟩
          show (FLM v).1 ≠ 0
          rw [v6, if_neg q]
          split
          · exact FN_ne (by decide)
          · exact FN_ne (by decide)
      have hsmv : SM kd wr m v (t + 1) d := by
        obtain ⟨⟨a1, a2, a3, a4, a5⟩, a6, a7, a8, a9⟩ := hsm1
        exact ⟨⟨a1, a2, a3, a4, fun i hi => by rw [(v8 2 i (by omega)).1, (v8 3 i (by omega)).1]; exact a5 i hi⟩, a6, a7, by rw [(v8 0 7 (by omega)).1]; exact a8, by rw [(v8 0 8 (by omega)).1]; exact a9⟩
      have hncnt : n = cntP wM pr (C 1) := by
        have h1 := ((i15.1 pr).1 s7).1
        have h2 := @cntP_le wM pr (C 1)
        rw [s4] at h1
        exact (eq_iN (by omega) (by omega)).mp h1
      have hi15 : 200 < n → FLN (FLM wM) (wr t) := fun h => ((i15.1 pr).1 s7).2 (by omega)
      have hfau : FAX wr (C 7) (t + 1) (FLA u) (FLM v) := by
        have hFLM0 : FLM (si wM 0 7 (Int32.ofNat (t + 1))) = FLM wM := by
          unfold FLM
          rw [gi_si1 (by omega), gi_si1 (by omega)]
        rw [u8, v6, hFLM0]
        have hb1 : FAX wr (C 7) (t + 1) (if fnd (fun i => nm (TK i)) (nm t) (SL s) = 0 then FLA wA else FN (FLA wA) 3 (Int32.ofNat (wr t))) (if fnd (fun i => nm (TK i)) (nm t) (SL s) = 0 then FLM wM else FN (FLM wM) 3 (Int32.ofNat (wr t))) := by
          split
          · exact i5.le (by omega)
          · exact (i5.le (by omega)).fn (by decide)
        have hl2 : 200 < n → FLN (if fnd (fun i => nm (TK i)) (nm t) (SL s) = 0 then FLM wM else FN (FLM wM) 3 (Int32.ofNat (wr t))) (wr t) := fun h200 => by
          have hl := hi15 h200
          split
          · exact hl
          · exact FLN.fn (y := 0) hl (by omega)
        generalize (if fnd (fun i => nm (TK i)) (nm t) (SL s) = 0 then FLA wA else FN (FLA wA) 3 (Int32.ofNat (wr t))) = X at hb1 ⊢
        generalize (if fnd (fun i => nm (TK i)) (nm t) (SL s) = 0 then FLM wM else FN (FLM wM) 3 (Int32.ofNat (wr t))) = Y at hb1 hl2 ⊢
        by_cases q4 : sort = 4
        · rw [if_neg (by omega), if_neg (by omega)]; exact hb1
        · by_cases q1 : n + 1 = 201
          · rw [if_pos ⟨q4, q1⟩, if_pos ⟨by omega, by omega⟩]; exact hb1.fn (by decide)
          · rw [if_neg (by omega)]
            by_cases q2 : 200 < n + 1
            · rw [if_pos ⟨by omega, q2⟩, FN_late (hl2 (by omega)) (by omega)]
              exact hb1
            · rw [if_neg (by omega)]; exact hb1
      have hFLM0 : FLM (si wM 0 7 (Int32.ofNat (t + 1))) = FLM wM := by
        unfold FLM
        rw [gi_si1 (by omega), gi_si1 (by omega)]
      have hTK : ∀ i, i < C 1 → upF TK (C 1) t i = TK i := fun i hi => if_neg (by omega)
      have fA : ∀ k j, ¬ ((k = 3 ∧ (j = 6 ∨ j = 7)) ∨ (k = 4 ∧ (j = 9 ∨ j = 10)) ∨ (k = 13 ∧ (j = 12 ∨ j = 14)) ∨ (14 ≤ k ∧ k ≤ 24 ∧ j = C 1 + 1) ∨ (k = 25 ∧ j = t) ∨ (27 ≤ k ∧ k ≤ 31) ∨ (k = 38 ∧ j = l)) → gi u k j = gi wA k j := fun k j hkk => (hOA k j hkk).1
      have fM : ∀ k j, ¬ ((k = 0 ∧ (j = 7 ∨ j = 42 ∨ j = 10 ∨ j = 11)) ∨ (18 ≤ k ∧ k ≤ 28 ∧ k ≠ 26 ∧ j = C 1) ∨ (k = 34 ∧ j = pr) ∨ (k = 16 ∧ j = s)) → gi v k j = gi wM k j := fun k j hkk => (hOM k j hkk).1
      have hkl : (if kind = 4 then n else n + 1) = (if sort = 4 then n else n + 1) := by
        by_cases q4 : sort = 4
        · rw [if_pos q4, if_pos (h44.mp q4)]
        · rw [if_neg q4, if_neg (fun h => q4 (h44.mpr h))]
      have hfl15 : ∀ x, FLN (FLM wM) x → x = wr t → FLN (FLM v) (wr (t + 1)) := by
        intro x hx hxe
        subst hxe
        have hl2 : FLN (if fnd (fun i => nm (TK i)) (nm t) (SL s) = 0 then FLM wM else FN (FLM wM) 3 (Int32.ofNat (wr t))) (wr t) := by
          split
          · exact hx
          · exact FLN.fn (y := 0) hx (by omega)
        rw [v6, hFLM0]
        split
        · rw [FN_late hl2 (by omega)]; exact hl2.le (by omega)
        · exact hl2.le (by omega)
      refine H true (t + 1) (-1) _ u v (upF TK (C 1) t) _ (Or.inl ⟨rfl, rfl, u2, hsmv, OFF.tr (hOA.mono (fun k j hp => by unfold PAA; omega)) i3, OFF.tr (hOM.mono (fun k j hp => by unfold PMM; omega)) i4, hfau, ?_, ?_, ?_, ?_, ?_, ?_, ⟨l, l1, ?_, l3, pr, sg, q, r, l4, ?_⟩, ?_, ?_, ?_⟩) (fun _ => ⟨rfl, hk, rfl, by omega, rfl, rfl, ⟨hSLq, RSC.nil hRv (by rw [dcC_1]; omega) (by rw [dcC_1]; omega) (by rw [dcC_n (by omega) (by omega)]; omega) hbL' (fun s' hs' hm => by
        rcases hSLi s' _ hm with q | q
        · refine ⟨q.1, ?_⟩
          have hn : C 1 ∉ SL s := fun c => by have := ((i7.2.2.2.2.2.1 s).2.2 _ c).1; omega
          by_cases qf : fnd (fun i => nm (TK i)) (nm t) (SL s) = 0
          · have hls := hRv.2.2.2.1 s (by rw [← q.1]; exact hs')
            rw [if_pos qf, show upS SL s (C 1) s = C 1 :: SL s from if_pos rfl] at hls
            exact LNM.d21 _ _ hls (fun j hj => by have := ((i7.2.2.2.2.2.1 s).2.2 _ hj).1; omega)
          · rw [if_neg qf, q.1] at hm
            exact absurd hm hn
        · have := ((i7.2.2.2.2.2.1 s').2.2 _ q).1; omega) (hSLq.imp (fun z => z.2) (fun z => ⟨by rw [dcC_n (by omega) (by omega)]; exact r3.2.1, by rw [z.1, show upS SL s (C 1) s = C 1 :: SL s from if_pos rfl]; exact List.mem_cons_self⟩))⟩, hS _ _ _ _ _ _ _ _ (hP rfl) hstep, l, pr, sg, q, r, l4, hlr, ⟨u6, ?_⟩, ?_, ?_⟩) (fun h => absurd h (by decide))
      · rw [dcC_1, dcC_n (by omega) (by omega), dcC_n (by omega) (by omega), dcC_n (by omega) (by omega), dcC_n (by omega) (by omega), dcC_n (by omega) (by omega)]
        exact ⟨by omega, by omega, by omega, by omega, by omega, by omega, by omega, by omega⟩
      · rw [hfx, dcC_1, dcC_n (by omega) (by omega)]
        exact u3
      · exact hRv
      · rw [fM 0 29 (by omega)]; exact i9
      · rw [dcC_1, dcC_6, dcC_n (by omega) (by omega), dcC_n (by omega) (by omega), dcC_n (by omega) (by omega), dcC_n (by omega) (by omega), fM 0 23 (by omega), fM 0 59 (by omega), fM 0 53 (by omega), fM 0 54 (by omega), fA 13 13 (by omega)]
        refine ⟨c1, c2, c3, ?_, c5, c6, u4⟩
        rw [u5, c4]
        split
        · exact ad1_iN _
        · exact add_iN _ 0
      · intro i hi
        have hiC : i < C 1 := by omega
        have h25 := (i11 i hi).2.2.2.2.1
        have hTt : TK i ≠ t := by
          intro e
          rw [e] at h25
          rw [i14 t (Nat.le_refl _) htz] at h25
          exact absurd h25.symm (of_ne (k := 0) (by omega) (by omega) (by omega))
        have hs' := (i11 i hi).agr (C' := dcC C sort) (uA := u) (uM := v) dcC_le (fun k hkk => fA k _ (by omega)) (fA 25 _ (by omega)) (fun k hkk => fM k _ (by omega)) (fun p _ => fM 30 p (by omega)) (fun p _ _ => ⟨fM 29 p (by omega), fM 31 p (by omega), fM 32 p (by omega)⟩)
        unfold SYM at hs' ⊢
        rw [hTK i hiC]
        exact hs'
      · rw [fA 34 5 (by omega)]; exact l2
      · rw [fM 0 30 (by omega)]; exact l5
      · rw [l4]
        refine ⟨by rw [← hlr, fA 36 l (by omega)]; exact s1, by rw [fM 35 pr (by omega)]; exact s2, ⟨_, by rw [← hlr]; exact u7, by rw [v5, hkl], ?_⟩, by rw [fM 30 pr (by omega), ← hlr]; exact s6, by rw [dcC_n (by omega) (by omega)]; exact s7, by rw [fM 37 pr (by omega)]; exact s8, s9, by have h1 := @dcC_le C sort 1; have h3 := @dcC_le C sort 3; have h0 := @dcC_le C sort 0; omega, by have h1 := @dcC_le C sort 1; have h3 := @dcC_le C sort 3; omega, ?_⟩
        · rw [dcC_1]
          split <;> omega
        · exact NST.agr2 dcC_le s12 (fun l' hl' => ⟨fA 36 l' (by omega), fA 38 l' (by omega)⟩) (fun y hy => by
            have := s9 y hy
            exact ⟨fM 35 _ (by omega), fM 34 _ (by omega), fM 30 _ (by omega), fM 37 _ (by omega)⟩)
      · intro j hj hjz
        rw [fA 25 j (by omega)]
        exact i14 j (by omega) hjz
      · obtain ⟨w1, w2, w3, w4, w5, w6, w7, w8⟩ := v4
        have hc : ∀ p, cntP v p (C 1) = cntP wM p (C 1) := fun p => cntP_agr _ (fun i hi => ⟨fM 23 i (by omega), fM 19 i (by omega)⟩)
        have hmz : gi wM 0 10 ≠ 0 → gi v 0 10 ≠ 0 := fun hz => by
          have h2 : (FLM v).1 ≠ 0 := by
            rw [v6, hFLM0]
            split
            · exact FN_ne (by decide)
            · split
              · exact hz
              · exact FN_ne (by decide)
          exact h2
        have hmf : ∀ x, FLN (FLM wM) x → FLN (FLM v) x := fun x hx => by
          have hl2 : FLN (if fnd (fun i => nm (TK i)) (nm t) (SL s) = 0 then FLM wM else FN (FLM wM) 3 (Int32.ofNat (wr t))) x := by
            split
            · exact hx
            · exact hx.fn9 (by decide)
          rw [v6, hFLM0]
          split
          · exact hl2.fn9 (by decide)
          · exact hl2
        have hcp : ∀ p, p < 2000 → cntP v p (C 1 + 1) = cntP wM p (C 1) + (if pr = p ∧ kind ≠ 4 then 1 else 0) := fun p hp => by
          show cntP v p (C 1) + (if gi v 23 (C 1) = Int32.ofNat p ∧ gi v 19 (C 1) ≠ 4 then 1 else 0) = _
          rw [hc, w4, w1]
          have h1 : (Int32.ofNat pr = Int32.ofNat p) ↔ pr = p := eq_iN (by omega) (by omega)
          have h2 : (Int32.ofNat kind ≠ 4) ↔ kind ≠ 4 := not_congr (eq_iN (a := kind) (b := 4) (by omega) (by omega))
          by_cases q1 : pr = p ∧ kind ≠ 4
          · rw [if_pos q1, if_pos ⟨h1.mpr q1.1, h2.mpr q1.2⟩]
          · rw [if_neg q1, if_neg (fun h => q1 ⟨h1.mp h.1, h2.mp h.2⟩)]
        unfold OVF
        rw [dcC_1, dcC_n (by omega) (by omega)]
        refine ⟨fun p => ⟨fun hp => ?_, fun hp hp2 => ?_⟩, fun i hi g1 g2 => ?_, fun p nf g1 g2 g3 g4 g5 => ?_, fun i hi hni => ?_⟩
        · rw [hcp p (by omega)]
          by_cases qp : pr = p
          · subst qp
            rw [v5, hncnt]
            by_cases q4 : kind = 4
            · rw [if_pos q4, if_neg (by omega)]
              refine ⟨rfl, fun h200 => ?_⟩
              exact hfl15 _ (hi15 (by omega)) rfl
            · rw [if_neg q4, if_pos ⟨rfl, q4⟩]
              refine ⟨rfl, fun h200 => ?_⟩
              show FLN (FLM v) (wr (t + 1))
              rw [v6, if_pos ⟨q4, by omega⟩]
              exact FN_soon (by decide) (by omega) (by omega)
          · rw [if_neg (by omega), fM 34 p (by omega)]
            obtain ⟨g1, g2⟩ := (i15.1 p).1 hp
            exact ⟨g1, fun h200 => hfl15 _ (g2 h200) rfl⟩
        · rw [hcp p hp2, if_neg (by omega)]
          exact (i15.1 p).2 hp hp2
        · rw [fM 19 i (by omega)] at g1
          rw [fM 24 i (by omega)] at g2
          rw [fM 22 i (by omega)]
          exact hmf _ (i15.2.1 i hi g1 g2)
        · rw [fM 31 p (by omega)] at g4
          exact hmz (i15.2.2.1 p nf g1 g2 g3 g4 g5)
        · by_cases qi : i < C 1
          · rw [fM 22 i (by omega)]
            refine hmf _ (i15.2.2.2 i qi (fun s' hm => hni s' ?_))
            by_cases qf : fnd (fun i => nm (TK i)) (nm t) (SL s) = 0
            · rw [if_pos qf]
              unfold upS
              by_cases e : s' = s
              · rw [if_pos e]
                exact List.mem_cons_of_mem _ (by rw [← e]; exact hm)
              · rw [if_neg e]; exact hm
            · rw [if_neg qf]; exact hm
          · have e : i = C 1 := by omega
            subst e
            by_cases qf : fnd (fun i => nm (TK i)) (nm t) (SL s) = 0
            · rw [if_pos qf] at hni
              exact absurd (show C 1 ∈ upS SL s (C 1) s by
                rw [show upS SL s (C 1) s = C 1 :: SL s from if_pos rfl]
                exact List.mem_cons_self) (hni s)
            · rw [w3, tc_iN (by omega)]
              show FLN (FLM v) (wr t + 1)
              rw [v6, hFLM0, if_neg qf]
              split
              · exact (FN_soon (by decide) (by omega) (by omega)).fn9 (by decide)
              · exact FN_soon (by decide) (by omega) (by omega)
      · obtain ⟨w1, w2, w3, w4, w5, w6, w7, w8⟩ := v4
        exact ⟨w1, w2, w3, w4, w5, w6, w7, w8, by rw [fM 30 pr (by omega)]; exact s6⟩
      · rw [fA 36 l (by omega)]; exact s1
      · rw [fM 35 pr (by omega)]; exact s2
    · obtain ⟨hn2⟩ : Nonempty _ := ⟨n2 hk⟩
      rw [FA_1] at hn2
      obtain ⟨x, hx⟩ := hbad (-1) _ rfl hk hn2 (zl_iN (by have := hT.1 t; omega))
      have hD := hJ.dead hb (hin.tok n3 hn2) (hT.1 t) n3
      rw [hx, lt2q, y2 hk, be_no]
      obtain ⟨g, g1, g2⟩ := (H false (z - 1) _ x _ wM TK SL (Or.inr ⟨rfl, rfl, hD⟩) (fun h => absurd h (by decide)) (fun _ => rfl)).1 rfl
      exact ⟨fun h => absurd h (by decide), fun _ => Or.inl ⟨t, g, _, g1, g2, rfl, gi_si0 _ _ _ _, i4.pmm (OFF.si ⟨rfl, by omega⟩)⟩⟩
  · subst h1
    have hk0 : kd t = 0 := by rw [h2]; exact h3.1.zk
    have hn2 := n2 (by omega)
    have hfa : FA wr fa t = fa := if_pos h3.2.1
    rw [hfa] at hn2
    obtain ⟨x, hx⟩ := hbad fa fa rfl (by omega) hn2 h3.2.1
    have hD : DI kd wr nm z gA (s :: stk) fa b (fX9_need (Int32.ofNat 2) wA) := by
      obtain ⟨a, c', e, TK', SL', ns, nsc, f, g⟩ := h3
      exact ⟨a.tok n3 hn2, c', OFF.tr (n3.mono (fun k j hp => Or.inr (Or.inl hp))) e, TK', SL', ns, nsc, f.agr (fun k j hk => (n3 k j (by unfold PSC at hk; omega)).1), g⟩
    rw [hx, lt2q]
    exact ⟨fun _ => (H false (z - 1) fa x _ wM TK SL (Or.inr ⟨rfl, rfl, hD⟩) (fun h => absurd h (by decide)) (fun _ => rfl)).1 rfl, fun h => absurd h (by decide)⟩
end JT
