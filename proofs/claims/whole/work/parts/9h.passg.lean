/-! THE CLASS, first pass: EXPRS with if, all of them -/
section P1
variable {kd wr : Nat → Nat} {z k : Nat} {rc : TX2_typed}
theorem RUN.bnd {r : Option (Int32 × Wd)} {K : Int32 → Wd → Option (Int32 × Wd)} {w0 w : Wd} {t0 t1 base : Nat} {o : Sum Nat Nat} {fa : Int32} {Q Q2 : Int32 → Nat → Wd → Prop} {g : Nat → Sum Nat Nat} (hwr : ∀ i, wr i ≤ 8192) (hz : t1 < z) (h : RUN kd wr z r w t1 base o fa Q) (hL : LOW base w w0) (hO : OFF (PE1 t0) w w0) (ht : t0 ≤ t1) (hg : ∃ q, g (z - 1) = .inl q)
    (H : ∀ x v t fa', IN1 kd wr z v t base fa' → t1 ≤ t → LOW base v w0 → OFF (PE1 t0) v w0 → OFF (PE1 t1) v w → (o = .inr t ∧ Q x t v ∨ (∃ p, o = .inl p) ∧ t = z - 1) → RUN kd wr z (K x v) w0 t0 base (g t) fa' Q2) : RUN kd wr z (bn2 r K) w0 t0 base (sb o g) fa Q2 := by
  obtain ⟨x, v, a, b, c, d, e⟩ := h
  rw [a, bn2_so]
  have hO2 : OFF (PE1 t0) v w0 := OFF.tr (c.mono (fun _ _ hp => hp.le ht)) hO
  rcases o with p | e1
  · obtain ⟨q, hq⟩ := hg
    have h1 := H x v (z - 1) _ (d p rfl) (by omega) (b.tr hL) hO2 c (Or.inr ⟨⟨p, rfl⟩, rfl⟩)
    rw [hq] at h1
    obtain ⟨x2, v2, a2, b2, c2, d2, e2⟩ := h1
    refine ⟨x2, v2, a2, b2, c2, fun p' hp => ?_, fun e' he => nomatch he⟩
    injection hp with hp
    subst hp
    have := d2 q rfl
    rw [FA_FA hwr] at this
    exact this
  · obtain ⟨h1, h2, h3⟩ := e e1 rfl
    exact H x v e1 fa h2 h1 (b.tr hL) hO2 c (Or.inl ⟨rfl, h3⟩)
theorem RUN.nd {w w0 : Wd} {t t0 base : Nat} {fa : Int32} {c : Nat} {K : Wd → Option (Int32 × Wd)} {g : Nat → Sum Nat Nat} {Q2 : Int32 → Nat → Wd → Prop} (hwr : ∀ i, wr i ≤ 8192) (h : IN1 kd wr z w t base fa) (hL : LOW base w w0) (hO : OFF (PE1 t0) w w0) (hk : c ≤ 50) (h0 : c ≠ 0) (hg : ∃ q, g (z - 1) = .inl q)
    (H : ∀ v t' fa', IN1 kd wr z v t' base fa' → LOW base v w0 → OFF (PE1 t0) v w0 → OFF (fun k j => k = 4 ∧ (j = 9 ∨ j = 10)) v w → (kd t = c ∧ t' = t + 1 ∨ kd t ≠ c ∧ t' = z - 1) → RUN kd wr z (K v) w0 t0 base (g t') fa' Q2) :
    RUN kd wr z (lt (fX9_need (Int32.ofNat c) w) K) w0 t0 base (if kd t = c then g (t + 1) else .inl t) fa Q2 := by
  obtain ⟨n1, n2, n3⟩ := a_need h.1 hk h0
  have hL2 := (LOW.tk (b := base) n3).tr hL
  have hO2 : OFF (PE1 t0) (fX9_need (Int32.ofNat c) w) w0 := OFF.tr (n3.mono (fun _ _ hp => PE1.tk hp)) hO
  rw [ltq]
  by_cases q : kd t = c
  · rw [if_pos q]
    exact H _ _ _ (h.tok n3 (n1 q)) hL2 hO2 n3 (Or.inl ⟨q, rfl⟩)
  · rw [if_neg q]
    have h1 := H _ _ _ (h.tok n3 (n2 q)) hL2 hO2 n3 (Or.inr ⟨q, rfl⟩)
    obtain ⟨qq, hq⟩ := hg
    rw [hq] at h1
    obtain ⟨x2, v2, a2, b2, c2, d2, e2⟩ := h1
    refine ⟨x2, v2, a2, b2, c2, fun p' hp => ?_, fun e' he => nomatch he⟩
    injection hp with hp
    subst hp
    have := d2 qq rfl
    rw [FA_FA hwr] at this
    exact this
/-- 'if' EXPR 'then' -/
def ifO (kd : Nat → Nat) (k d t : Nat) : Sum Nat Nat := if 40 ≤ d then .inl (t + 1) else sb (xw kd k (d + 1) (t + 1)) (cl_ kd 16)
theorem cl_z {c y : Nat} (h : kd y = 0) (hc : c ≠ 0) : cl_ kd c y = .inl y := by
  unfold cl_
  rw [if_neg (by omega)]
theorem p1_test (hwr : ∀ i, wr i ≤ 8192) {d : Nat} (hE : ∀ a2, A2 kd wr z (d + 1) (xw kd k (d + 1)) (QW kd k (d + 1)) (fun w => rc 0 (Int32.ofNat (d + 1)) a2 0 w)) {w : Wd} {t base : Nat} {fa : Int32} (h : IN1 kd wr z w t base fa) (hk : kd t ≠ 0) (h4 : kd t ≠ 4) (hd : d ≤ 40) (hb : base ≤ 10 * (d + 1)) :
    RUN kd wr z (fX2_test rc (Int32.ofNat d) w) w t base (ifO kd k d t) fa (fun _ e u => ∀ e1, xw kd k (d + 1) (t + 1) = .inr e1 → e = e1 + 1 ∧ fmW kd u k (d + 1) (t + 1)) := by
  have htz := h.tz
  have ht1 : t + 1 < z := kdlt h.1 hk
  unfold fX2_test ifO
  refine RUN.opn (g := fun s => sb (xw kd k (d + 1) s) (cl_ kd 16)) hwr h hk h4 hd ⟨z - 1, by rw [xw_0 h.zk]; rfl⟩ (fun v t' fa' hv hO hl => ?_)
  have hd' : d + 1 ≤ 40 ∨ d + 1 ≤ 41 ∧ kd t' = 0 := by
    rcases hl with hl | hl
    · exact Or.inl (by omega)
    · exact Or.inr ⟨by omega, by rw [hl.2]; exact h.zk⟩
  refine RUN.bind hwr hv.tz (hE 2 v t' base fa' hv hb hd') ⟨z - 1, cl_z h.zk (by omega)⟩ (fun x v2 t2 fa2 hv2 ht2 hO2 hl2 => ?_)
  refine (RUN.last (k := 16) (Q2 := fun x' e u => e = t2 + 1 ∧ OFF (fun k j => PRE k j ∨ k = 4) u v2) hv2 (by omega) (by omega) (fun v3 hO3 => ⟨_, _, rfl, e_put__, fun _ => ⟨rfl, OFF.tr (e_put__.mono (fun _ _ hp => Or.inl hp)) (hO3.mono (fun k j hp => Or.inr hp.1))⟩⟩)).mono (fun x' e u he hO4 hq => ?_)
  rcases hl2 with ⟨q1, q2⟩ | ⟨⟨p, q1⟩, q2⟩
  · have hlive : t' = t + 1 := by
      rcases hl with hl | hl
      · exact hl.2
      · rw [hl.2, xw_0 h.zk] at q1; exact nomatch q1
    rw [← hlive]
    intro e1 he1
    rw [q1] at he1
    injection he1 with he1
    exact ⟨by rw [hq.1, he1], fmW_agr k (d + 1) _ _ q1 q2 (fun k j a b c d => (hq.2 k j (by unfold PRE; omega)).1)⟩
  · have hz0 : kd t2 = 0 := by rw [q2]; exact h.zk
    rw [if_neg (by omega)] at he
    exact nomatch he
theorem whX_if {d t : Nat} (h : kd t = 15) : whX kd (xp kd k) (xw kd k) d t = sb (ifO kd k d t) (fun t1 => sb (smX kd (xp kd k) (d + 1) t1) (fun t2 => if kd t2 = 17 then xw kd k (d + 1) (t2 + 1) else .inl t2)) := by
  unfold whX ifO
  rw [if_pos h]
  by_cases q : 40 ≤ d
  · rw [if_pos q, if_pos q]; rfl
  · rw [if_neg q, if_neg q]
    rcases xw kd k (d + 1) (t + 1) with p | e1
    · rfl
    · show (if kd e1 = 16 then _ else _) = sb (cl_ kd 16 e1) _
      unfold cl_
      by_cases q16 : kd e1 = 16
      · rw [if_pos q16, if_pos q16]
        show _ = sb (smX kd (xp kd k) (d + 1) (e1 + 1)) _
        rcases smX kd (xp kd k) (d + 1) (e1 + 1) with p | e2
        · rfl
        · rfl
      · rw [if_neg q16, if_neg q16]; rfl
theorem ot_eq {α : Type} (x : Int32) (v : Wd) (K : Int32 → Wd → α) : lt2 (fX2_otherwise x v) K = lt (fX9_need 17 v) (fun w1 => K (fX0_put__ 33 w1).1 (fX0_patch x (fX0_put__ 33 w1).2).2) := rfl
theorem is9 {w : Wd} {s : Nat} (hs : s < 8193) : fX9_isAim (Int32.ofNat s) w = true ↔ gi w 9 s ≠ 0 := by
  unfold fX9_isAim
  rw [ltq, rgi_iN hs (by omega)]
  by_cases q9 : gi w 9 s = 0
  · rw [if_pos q9]; exact ⟨fun h => absurd h (by decide), fun h => absurd q9 h⟩
  · rw [if_neg q9]; exact ⟨fun _ => q9, fun _ => rfl⟩
theorem ex_120 {a b : Int32} {bo : Bool} {a5 a7 a8 : Int32} {w : Wd} (h : gi (fX9_form a b bo w) 3 5 = 0) : ∃ x, fX2_expression_120 rc a b bo a5 a7 a8 w = some (x, fX9_form a b bo w) := by
  unfold fX2_expression_120
  rw [ltq, check_0 h, ltq]
  split
  · exact ⟨_, rfl⟩
  · split
    · exact ⟨_, rfl⟩
    · split
      · exact ⟨_, rfl⟩
      · exact ⟨_, rfl⟩
/-- an EXPR with one DEPTH more -/
theorem p1_expr (hwr : ∀ i, wr i ≤ 8192) (hz1 : ∀ i, i + 1 < z → kd i ≠ 0) {F d : Nat} (hE : EX1 kd wr z k F) (hk : 40 ≤ k + d) {G : Nat} (hG : F + 2 ≤ G) : A2 kd wr z d (xw kd (k + 1) d) (QW kd (k + 1) d) (fun w => fX2_expression (RX2_typed (G + 3)) (Int32.ofNat d) w) := by
  intro w t base fa h hb hd
  have htz := h.tz
  have hz9 := h.z9
  have hk50 := h.k50 t
  show RUN kd wr z (fX2_expression (RX2_typed (G + 3)) (Int32.ofNat d) w) w t base (whX kd (xp kd k) (xw kd k) d t) fa _
  unfold fX2_expression
  rw [ltq, a_at h.1, ltq, a_kind h.1]
  have hS : ∀ d', 40 ≤ k + d' → A2 kd wr z d' (smX kd (xp kd k) d') (fun t _ e u => fmS kd k (fmW kd u k) u d' t) (fun w => RX2_typed (G + 3) 3 (Int32.ofNat d') 0 0 w) := fun d' hd' => p1_simple hwr hz1 (fun _ => hE) hd' hG
  by_cases q : kd t = 15
  · rw [if_pos (show Int32.ofNat (kd t) = 15 by rw [q]; rfl), whX_if q]
    have hd40 : d ≤ 40 := by
      rcases hd with hd | hd
      · exact hd
      · omega
    have ht1 : t + 1 < z := kdlt h.1 (by omega)
    have hEt : ∀ a2, A2 kd wr z (d + 1) (xw kd k (d + 1)) (QW kd k (d + 1)) (fun w => RX2_typed (G + 2) 0 (Int32.ofNat (d + 1)) a2 0 w) := fun a2 => a2_tQ (rc := RX2_typed (G + 1)) (hE (G + 1) (d + 1) (by omega) (by omega))
    have hT := p1_test (rc := RX2_typed (G + 2)) hwr hEt h (by omega) (by omega) hd40 (by omega)
    have hsm0 : smX kd (xp kd k) (d + 1) (z - 1) = .inl (z - 1) := by
      unfold smX
      rw [rd_0 (fun d t h => prX_0 (by omega)) 9 (d + 1) (z - 1) h.zk]
    refine RUN.bnd hwr htz hT (fun _ _ => ⟨rfl, rfl⟩) OFF.rf (Nat.le_refl _) ⟨z - 1, by rw [hsm0]; rfl⟩ (fun x4 v1 t1 fa1 hv1 htt1 hL1 hO1 _ hl1 => ?_)
    have hdl : ∀ {t'}, (d + 1 ≤ 40 ∨ t' = z - 1) → d + 1 ≤ 40 ∨ d + 1 ≤ 41 ∧ kd t' = 0 := fun q => q.elim Or.inl (fun q => Or.inr ⟨by omega, by rw [q]; exact h.zk⟩)
    have hd1 : d + 1 ≤ 40 ∨ t1 = z - 1 := by
      rcases hl1 with ⟨l1, _⟩ | ⟨_, l2⟩
      · unfold ifO at l1
        by_cases q40 : 40 ≤ d
        · rw [if_pos q40] at l1; exact nomatch l1
        · exact Or.inl (by omega)
      · exact Or.inr l2
    rw [ltq, a_at hv1.1, ad1_iN]
    refine RUN.bnd hwr hv1.tz (hS (d + 1) (by omega) v1 t1 base fa1 hv1 (by omega) (hdl hd1)) hL1 hO1 htt1 ⟨z - 1, by rw [if_neg (by have := h.zk; omega)]⟩ (fun x7 v2 t2 fa2 hv2 htt2 hL2 hO2 hO21 hl2 => ?_)
    have hd2 : d + 1 ≤ 40 ∨ t2 = z - 1 := by
      rcases hd1 with hd1 | hd1
      · exact Or.inl hd1
      · have := hv2.tz; exact Or.inr (by omega)
    rw [ot_eq]
    refine RUN.nd (c := 17) (g := fun s => xw kd k (d + 1) s) hwr hv2 hL2 hO2 (by omega) (by omega) ⟨z - 1, xw_0 h.zk k (d + 1)⟩ (fun v3 t3 fa3 hv3 hL3 hO3 hO32 hl3 => ?_)
    -- jump, patch
    have hp5 : OFF PRE (fX0_patch x4 (fX0_put__ 33 v3).2).2 v3 := OFF.tr e_patch e_put__
    have hv5 := hv3.off hp5 PRE.ok
    have hL5 : LOW base (fX0_patch x4 (fX0_put__ 33 v3).2).2 w := (LOW.pre hp5).tr hL3
    have hO5 : OFF (PE1 t) (fX0_patch x4 (fX0_put__ 33 v3).2).2 w := OFF.tr (hp5.mono (fun _ _ hp => hp.p)) hO3
    have ht3 : t + 1 ≤ t3 := by
      have := hv2.tz
      omega
    have hd3 : d + 1 ≤ 40 ∨ t3 = z - 1 := by
      rcases hd2 with hd2 | hd2
      · exact Or.inl hd2
      · have := hv3.tz
        have := h.zk
        rw [← hd2] at this
        omega
    show RUN kd wr z (lt (fX9_at (fX0_patch x4 (fX0_put__ 33 v3).2).2) fun x11 => bn2 (RX2_typed (G + 3) 2 (Int32.ofNat (d + 1)) 0 0 (fX0_patch x4 (fX0_put__ 33 v3).2).2) _) w t base _ fa3 _
    rw [ltq, a_at hv5.1]
    obtain ⟨x12, v6, a6, b6, c6, e6, g6⟩ := hE (G + 3) (d + 1) (by omega) (by omega) _ t3 base fa3 hv5 (by omega) (hdl hd3)
    dsimp only at a6
    rw [a6, bn2_so]
    have hp7 : OFF PRE (fX0_patch (fX0_put__ 33 v3).1 v6).2 v6 := e_patch
    have hL7 : LOW base (fX0_patch (fX0_put__ 33 v3).1 v6).2 w := (LOW.pre hp7).tr (b6.tr hL5)
    have hO75 : OFF (PE1 t3) (fX0_patch (fX0_put__ 33 v3).1 v6).2 v3 := OFF.tr (hp7.mono (fun _ _ hp => hp.p)) (OFF.tr c6 (hp5.mono (fun _ _ hp => hp.p)))
    have hO7 : OFF (PE1 t) (fX0_patch (fX0_put__ 33 v3).1 v6).2 w := OFF.tr (hO75.mono (fun _ _ hp => hp.le (by omega))) hO3
    have hin7 : ∃ t7 fa7, IN1 kd wr z (fX0_patch (fX0_put__ 33 v3).1 v6).2 t7 base fa7 ∧ t < t7 ∧ (∀ p, xw kd k (d + 1) t3 = .inl p → t7 = z - 1 ∧ fa7 = FA wr fa3 p) ∧ ∀ e, xw kd k (d + 1) t3 = .inr e → t7 = e ∧ fa7 = fa3 ∧ fmW kd (fX0_patch (fX0_put__ 33 v3).1 v6).2 k (d + 1) t3 := by
      rcases hx : xw kd k (d + 1) t3 with p | e
      · exact ⟨z - 1, _, (e6 p hx).off hp7 PRE.ok, by omega, fun p' hp' => by injection hp' with hp'; exact ⟨rfl, by rw [hp']⟩, fun e he => nomatch he⟩
      · obtain ⟨y1, y2, y3⟩ := g6 e hx
        exact ⟨e, fa3, y2.off hp7 PRE.ok, by omega, (fun p' hp' => nomatch hp'), fun e' he => by injection he with he; exact ⟨he, rfl, fmW_pre hp7 hx y3⟩⟩
    obtain ⟨t7, fa7, hv7, ht7, hdead, hlive⟩ := hin7
    have ht1z := hv1.tz
    have ht3z := hv3.tz
    rw [lt2q]
    generalize hv7' : (fX0_patch (fX0_put__ 33 v3).1 v6).2 = v7 at *
    -- the form of it all
    have hfin : ∀ bo : Bool, (bo = true ↔ gi v7 9 t1 ≠ 0 ∧ gi v7 9 t3 ≠ 0) → RUN kd wr z (fX2_expression_120 (RX2_typed (G + 3)) (Int32.ofNat t) 5 bo x7 (Int32.ofNat t3) x12 v7) w t base (xw kd k (d + 1) t3) fa3 (fun x e u => (xw kd k (d + 1) t3 = .inr e) → (∀ k j, ¬ (8 ≤ k ∧ k ≤ 10 ∧ j = t) → gi u k j = gi v7 k j) ∧ gi u 8 t = 5 ∧ gi u 10 t = Int32.ofNat e ∧ (gi u 9 t ≠ 0 ↔ gi v7 9 t1 ≠ 0 ∧ gi v7 9 t3 ≠ 0)) := by
      intro bo hbo
      obtain ⟨f1, f2, f3, f4, f5⟩ := c_form (s := t) (fm := 5) (b := bo) hv7.1 (by omega) (fun q => by omega)
      have hfo : OFF (fun k j => 8 ≤ k ∧ k ≤ 10 ∧ j = t) (fX9_form (Int32.ofNat t) 5 bo v7) v7 := by
        intro k j hk
        refine ⟨f2 k j hk, ?_⟩
        rw [form_eq hv7.1 (by omega) (fm := 5) (b := bo)]
        rfl
      obtain ⟨x, hx⟩ := ex_120 (rc := RX2_typed (G + 3)) (a := Int32.ofNat t) (b := 5) (bo := bo) (a5 := x7) (a7 := Int32.ofNat t3) (a8 := x12) (w := v7) ((f2 3 5 (by omega)).trans hv7.2.1)
      have hin8 : IN1 kd wr z (fX9_form (Int32.ofNat t) 5 bo v7) t7 base fa7 := ⟨f1, (f2 3 5 (by omega)).trans hv7.2.1, (f2 14 0 (by omega)).trans hv7.2.2.1, (f2 43 4 (by omega)).trans hv7.2.2.2⟩
      refine ⟨x, _, hx, fun j hj => ?_, OFF.tr (hfo.mono (fun k j hk => Or.inr (Or.inl ⟨hk.1, hk.2.1, by omega⟩))) hO7, fun p hp => ?_, fun e he => ?_⟩
      · rw [f2 44 j (by omega), f2 45 j (by omega)]
        exact hL7 j hj
      · obtain ⟨y1, y2⟩ := hdead p hp
        rw [← y1, ← y2]
        exact hin8
      · obtain ⟨y1, y2, y3⟩ := hlive e he
        subst y1 y2
        refine ⟨by omega, hin8, fun _ => ⟨f2, f3, f5, ?_⟩⟩
        rw [f4, ← hbo]
        cases bo <;> decide
    have hgo : RUN kd wr z (lt (fX9_isAim (Int32.ofNat t1) v7) fun x16 => if x16 = true then (lt (fX9_isAim (Int32.ofNat t3) v7) fun x18 => if x18 = true then (fX2_expression_120 (RX2_typed (G + 3)) (Int32.ofNat t) 5 true x7 (Int32.ofNat t3) x12 v7) else (fX2_expression_120 (RX2_typed (G + 3)) (Int32.ofNat t) 5 false x7 (Int32.ofNat t3) x12 v7)) else (fX2_expression_120 (RX2_typed (G + 3)) (Int32.ofNat t) 5 false x7 (Int32.ofNat t3) x12 v7)) w t base (xw kd k (d + 1) t3) fa3 (fun x e u => (xw kd k (d + 1) t3 = .inr e) → (∀ k j, ¬ (8 ≤ k ∧ k ≤ 10 ∧ j = t) → gi u k j = gi v7 k j) ∧ gi u 8 t = 5 ∧ gi u 10 t = Int32.ofNat e ∧ (gi u 9 t ≠ 0 ↔ gi v7 9 t1 ≠ 0 ∧ gi v7 9 t3 ≠ 0)) := by
      rw [ltq]
      by_cases q1 : fX9_isAim (Int32.ofNat t1) v7 = true
      · rw [if_pos q1, ltq]
        by_cases q3 : fX9_isAim (Int32.ofNat t3) v7 = true
        · rw [if_pos q3]
          exact hfin true ⟨fun _ => ⟨(is9 (by omega)).mp q1, (is9 (by omega)).mp q3⟩, fun _ => rfl⟩
        · rw [if_neg q3]
          exact hfin false ⟨fun h => absurd h (by decide), fun h => absurd ((is9 (by omega)).mpr h.2) q3⟩
      · rw [if_neg q1]
        exact hfin false ⟨fun h => absurd h (by decide), fun h => absurd ((is9 (by omega)).mpr h.1) q1⟩
    refine hgo.mono (fun x e u he hO8 hq => ?_)
    obtain ⟨y1, y2, y3, y4⟩ := hq he
    -- where it goes on, all went on
    have l3 : kd t2 = 17 ∧ t3 = t2 + 1 := by
      rcases hl3 with hl3 | hl3
      · exact hl3
      · rw [hl3.2, xw_0 h.zk] at he; exact nomatch he
    have l2 : smX kd (xp kd k) (d + 1) t1 = .inr t2 ∧ fmS kd k (fmW kd v2 k) v2 (d + 1) t1 := by
      rcases hl2 with hl2 | ⟨_, hl2⟩
      · exact hl2
      · have := h.zk; rw [← hl2] at this; omega
    have l1 : ifO kd k d t = .inr t1 ∧ ∀ e1, xw kd k (d + 1) (t + 1) = .inr e1 → t1 = e1 + 1 ∧ fmW kd v1 k (d + 1) (t + 1) := by
      rcases hl1 with hl1 | ⟨_, hl1⟩
      · exact hl1
      · rw [hl1, hsm0] at l2; exact nomatch l2.1
    have hx1 : ∃ e1, xw kd k (d + 1) (t + 1) = .inr e1 := by
      have := l1.1
      unfold ifO at this
      by_cases q40 : 40 ≤ d
      · rw [if_pos q40] at this; exact nomatch this
      · rw [if_neg q40] at this
        rcases hx : xw kd k (d + 1) (t + 1) with p | e1
        · rw [hx] at this; exact nomatch this
        · exact ⟨e1, rfl⟩
    obtain ⟨e1, hx1⟩ := hx1
    obtain ⟨z1, z2⟩ := l1.2 e1 hx1
    have hlt1 := xw_lt k _ _ _ hx1
    have hlt2 := smX_lt (xp_lt (kd := kd) k) l2.1
    have hAu : ∀ s e, t < s → AG9 u v7 s e := fun s e hs k j a b c d => y1 k j (by omega)
    have hA72 : ∀ s, s ≤ t2 → AG9 v7 v2 (t + 1) s := fun s hs k j a b c d => by
      rw [(hO75 k j (by unfold PE1; omega)).1, (hO32 k j (by omega)).1]
    have hA21 : AG9 v2 v1 (t + 1) e1 := fun k j a b c d => (hO21 k j (by unfold PE1; omega)).1
    show fmW kd u (k + 1) d t
    refine ⟨fun q' => absurd q q', fun _ e1' e2' e' h1' h2' h3' => ?_⟩
    rw [hx1] at h1'
    injection h1' with h1'
    subst h1'
    have z1' := z1
    subst z1'
    rw [l2.1] at h2'
    injection h2' with h2'
    subst h2'
    have l3' := l3.2
    subst l3'
    rw [he] at h3'
    injection h3' with h3'
    subst h3'
    have hF3 := (hlive _ he).2.2
    have hlt3 := xw_lt k _ _ _ he
    refine ⟨fmW_agr k _ _ _ hx1 z2 (fun kk j a b c dd => ?_), fmS_agr (fun d s e => fmW_agr k d s e) l2.1 l2.2 (fun kk j a b c dd => ?_), fmW_agr k _ _ _ he hF3 (hAu _ _ (by omega)), y2, y3, ?_⟩
    · rw [hAu (t + 1) e1 (by omega) kk j a b c dd, hA72 t2 (Nat.le_refl _) kk j a b (by omega) (by omega), hA21 kk j a b c dd]
    · rw [hAu (e1 + 1) t2 (by omega) kk j a b c dd, hA72 t2 (Nat.le_refl _) kk j a b (by omega) (by omega)]
    · rw [y4, y1 9 (e1 + 1) (by omega), y1 9 (t2 + 1) (by omega)]
  · rw [if_neg (show ¬ (Int32.ofNat (kd t) = 15) from of_ne (k := 15) (by omega) (by omega) q)]
    have hwh : whX kd (xp kd k) (xw kd k) d t = smX kd (xp kd k) d t := by
      unfold whX
      rw [if_neg q]
    rw [hwh]
    refine (hS d hk w t base fa h hb hd).post (fun x v hv => ⟨x, v, rfl, OFF.rf, fun e he hq => ?_⟩)
    exact ⟨fun _ => hq, fun q' => absurd q' q⟩
/-- all EXPRS of the first pass -/
theorem ex1_all (hwr : ∀ i, wr i ≤ 8192) (hz1 : ∀ i, i + 1 < z → kd i ≠ 0) : ∀ k, EX1 kd wr z k (6 * k + 6) := by
  intro k
  induction k with
  | zero =>
    intro G d hG hd w t base fa h hb hdd
    have hk0 : kd t = 0 := (hdd.resolve_left (by omega)).2
    obtain ⟨G1, rfl⟩ : ∃ G1, G = G1 + 4 := ⟨G - 4, by omega⟩
    show RUN kd wr z (fX2_expression (RX2_typed (G1 + 3)) (Int32.ofNat d) w) w t base (.inl t) fa _
    unfold fX2_expression
    rw [ltq, ltq, a_kind h.1, hk0, if_neg (by decide)]
    have h1 := p1_simple (k := 0) (F := 0) (d0 := d) hwr hz1 (fun q => by omega) (by omega) (G := G1) (by omega) w t base fa h hb hdd
    have hsm : smX kd (xp kd 0) d t = .inl t := by
      unfold smX
      rw [rd_0 (fun d t h => prX_0 (by omega)) 9 d t hk0]
    rw [hsm] at h1
    exact h1.post (fun x v hv => ⟨x, v, rfl, OFF.rf, fun e he => nomatch he⟩)
  | succ k ih =>
    intro G d hG hd
    obtain ⟨G1, rfl⟩ : ∃ G1, G = G1 + 4 := ⟨G - 4, by omega⟩
    exact p1_expr hwr hz1 ih (by omega) (by omega)
end P1
