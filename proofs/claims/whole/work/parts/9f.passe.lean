/-! THE CLASS, first pass: PRIMARIES -/
section P1
variable {kd wr : Nat → Nat} {z k d : Nat} {rc : TX2_typed}
/-- what's behind changes no TOKEN -/
theorem RUN.post {r : Option (Int32 × Wd)} {K : Int32 → Wd → Option (Int32 × Wd)} {w0 : Wd} {t0 base : Nat} {o : Sum Nat Nat} {fa : Int32} {Q Q2 : Int32 → Nat → Wd → Prop} (h : RUN kd wr z r w0 t0 base o fa Q)
    (H : ∀ x v, OFF (PE1 t0) v w0 → ∃ y u, K x v = some (y, u) ∧ OFF PRE u v ∧ ∀ e, o = .inr e → Q x e v → Q2 y e u) : RUN kd wr z (bn2 r K) w0 t0 base o fa Q2 := by
  obtain ⟨x, v, a, b, c, e, g⟩ := h
  obtain ⟨y, u, k1, k2, k3⟩ := H x v c
  rw [a, bn2_so]
  exact ⟨y, u, k1, (LOW.pre k2).tr b, OFF.tr (k2.mono (fun _ _ hp => hp.p)) c, fun p hp => (e p hp).off k2 PRE.ok, fun e' he => ⟨(g e' he).1, (g e' he).2.1.off k2 PRE.ok, k3 e' he (g e' he).2.2⟩⟩
theorem fmW_pre {u v : Wd} (h : OFF PRE u v) {d s e : Nat} (he : xw kd k d s = .inr e) (hw : fmW kd v k d s) : fmW kd u k d s := fmW_agr k d s e he hw (fun k j a b c d => (h k j (by unfold PRE; omega)).1)
theorem rowF_pre {u v : Wd} (h : OFF PRE u v) {n t e d : Nat} (he : rw_ kd (xw kd k d) n t = .inr e) (hr : rowF kd (xw kd k d) (fun s => fmW kd v k d s) n t) : rowF kd (xw kd k d) (fun s => fmW kd u k d s) n t :=
  rowF_agr (u := u) (w := v) (xw_lt k d) (fun t e => fmW_agr k d t e) _ _ _ he hr (fun k j a b c d => (h k j (by unfold PRE; omega)).1)
theorem br_rw {f : Nat → Sum Nat Nat} {c t e : Nat} (h : br_ kd f c t = .inr e) : ∃ e1, rw_ kd f (9000 - t) t = .inr e1 := by
  unfold br_ at h
  rcases hx : rw_ kd f (9000 - t) t with p | e1
  · rw [hx] at h; exact nomatch h
  · exact ⟨e1, rfl⟩
theorem sy_pre {u v : Wd} (h : OFF PRE u v) (hs : SY0 v) : SY0 u := (h 14 0 (by unfold PRE; omega)).1.trans hs
theorem nm_100f {a1 a2 : Int32} {w : Wd} (h : SY0 w) (h0 : gi w 3 5 = 0) : ∃ u, fX2_named_100 rc false a1 a2 0 w = some (1, u) ∧ OFF PRE u w := by
  unfold fX2_named_100
  rw [if_neg (by decide), ltq, sort_0 h, if_neg (by decide), ltq]
  have h1 := e_variable (a := 0) (b := a2) h0
  rw [ltq, typeIf_0 (sy_pre h1 h) (by decide), ltq, if_neg (by decide)]
  exact ⟨_, rfl, OFF.tr e_push h1⟩
theorem nm_100t {a1 a2 : Int32} {w : Wd} (h : SY0 w) : fX2_named_100 rc true a1 a2 0 w = bn2 (rc 8 a1 0 a2 w) fun _ w2 => lt (fX2_typeIf 0 3 w2) fun x3 => lt (fX10_push x3 a2 w2) fun w4 => some (6, w4) := by
  unfold fX2_named_100
  rw [if_pos rfl]
  unfold fX2_named_119
  rw [ltq, sort_0 h, if_neg (by decide)]
  unfold fX2_named_147
  rw [if_neg (by decide), ltq, sort_0 h, if_pos rfl]
  unfold fX2_named_174
  simp only [if_true]
theorem p1_named (hwr : ∀ i, wr i ≤ 8192) (hE : ∀ a2, A2 kd wr z (d + 1) (xw kd k (d + 1)) (QW kd k (d + 1)) (fun w => rc 0 (Int32.ofNat (d + 1)) a2 0 w)) (hA : A2 kd wr z (d + 1) (xw kd k (d + 1)) (QW kd k (d + 1)) (fun w => rc 9 (Int32.ofNat (d + 1)) 0 0 w)) (r2 : TX2_typed) (h6 : ∀ a b c w, r2 6 a b c w = fX2_element rc a b c w) (h8 : ∀ a b c w, r2 8 a b c w = fX2_call rc a b c w)
    {w : Wd} {t base : Nat} {fa : Int32} (h : IN1 kd wr z w t base fa) (hk : kd t = 2) (hd : d ≤ 40) (hb : base ≤ 10 * (d + 1)) :
    RUN kd wr z (fX2_named r2 (Int32.ofNat d) w) w t base (xp kd k d t) fa (fun x e u => x = fmX kd k d t ∧ inP kd k (fmW kd u k) d t) := by
  have htz := h.tz
  have hz9 := h.z9
  have hk50 := h.k50
  unfold fX2_named
  rw [ltq, a_at h.1, find_0 h.2.1, lt2q]
  obtain ⟨e1, e2⟩ := a_take (k := 2) h.1 (by omega) (by rw [hk]; rfl)
  rw [e1, lt2q]
  have hO : OFF (fun k j => k = 4 ∧ (j = 9 ∨ j = 10)) (si w 4 9 (Int32.ofNat (t + 1))) w := OFF.si ⟨rfl, Or.inl rfl⟩
  have h1 := h.tok hO e2
  refine RUN.tr ?_ (LOW.tk hO) (hO.mono (fun _ _ hp => PE1.tk hp)) (show t ≤ t + 1 by omega)
  rw [ltq, a_kind h1.1]
  have hpr : xp kd k d t = (if kd (t + 1) = 43 then (if 40 ≤ d then .inl (t + 2) else br_ kd (xw kd k (d + 1)) 44 (t + 2))
     else if kd (t + 1) = 45 then (if 40 ≤ d then .inl (t + 2) else br_ kd (xw kd k (d + 1)) 46 (t + 2))
     else .inr (t + 1)) := by
    show prX kd (xw kd k) d t = _
    unfold prX
    rw [if_neg (by omega), if_neg (by omega), if_pos hk]
  have hfm : fmX kd k d t = (if kd (t + 1) = 43 then 6 else if kd (t + 1) = 45 then (if cntR kd (xw kd k (d + 1)) (9000 - (t + 2)) (t + 2) = 1 then 2 else 3) else 1) := by
    unfold fmX
    rw [if_neg (by omega), if_pos hk]
  rw [hpr, hfm]
  by_cases q45 : kd (t + 1) = 45
  · rw [if_pos (show Int32.ofNat (kd (t + 1)) = 45 by rw [q45]; rfl), if_neg (show ¬ kd (t + 1) = 43 by omega), if_pos q45, h6]
    refine (el_all hwr hE h1 q45 hd hb).post (fun x v hv => ?_)
    have hO3 : ∀ y, OFF PRE (fX10_push y (Int32.ofNat t) (fX0_put__ 24 v).2) v := fun y => OFF.tr e_push e_put__
    rw [lt2q, ltq, ltq]
    by_cases qx : x = 1
    · rw [if_pos qx]
      refine ⟨_, _, rfl, hO3 _, fun e he hq => ?_⟩
      have hc1 : cntR kd (xw kd k (d + 1)) (9000 - (t + 2)) (t + 2) = 1 := by
        have h2 : x = Int32.ofNat (cntR kd (xw kd k (d + 1)) (9000 - (t + 2)) (t + 2)) := hq.1
        rw [qx] at h2
        have h3 : cntR kd (xw kd k (d + 1)) (9000 - (t + 2)) (t + 2) ≤ 9000 := Nat.le_trans cntR_le (by omega)
        exact ((eq_iN (a := 1) (by omega) (by omega)).mp h2).symm
      refine ⟨by rw [if_neg (by omega), if_pos q45, if_pos hc1], (fun q => by omega), fun _ _ => ?_⟩
      by_cases q40 : 40 ≤ d
      · rw [if_pos q40] at he; exact nomatch he
      · rw [if_neg q40] at he
        obtain ⟨e5, h5⟩ := br_rw he
        exact rowF_pre (hO3 _) h5 hq.2
    · rw [if_neg qx]
      refine ⟨_, _, rfl, hO3 _, fun e he hq => ?_⟩
      have hc1 : ¬ cntR kd (xw kd k (d + 1)) (9000 - (t + 2)) (t + 2) = 1 := by
        intro h2
        have h3 := hq.1
        have h4 : x = Int32.ofNat (cntR kd (xw kd k (d + 1)) (9000 - (t + 2)) (t + 2)) := h3
        rw [h2] at h4
        exact qx h4
      refine ⟨by rw [if_neg (by omega), if_pos q45, if_neg hc1], (fun q => by omega), fun _ _ => ?_⟩
      by_cases q40 : 40 ≤ d
      · rw [if_pos q40] at he; exact nomatch he
      · rw [if_neg q40] at he
        obtain ⟨e5, h5⟩ := br_rw he
        exact rowF_pre (hO3 _) h5 hq.2
  · rw [if_neg (show ¬ (Int32.ofNat (kd (t + 1)) = 45) from of_ne (k := 45) (by have := hk50 (t + 1); omega) (by omega) q45), ltq]
    by_cases q43 : kd (t + 1) = 43
    · rw [if_pos (show Int32.ofNat (kd (t + 1)) = 43 by rw [q43]; rfl), if_pos q43, nm_100t h1.s0, h8]
      refine (ca_all hwr hA h1 q43 hd hb).post (fun x v hv => ?_)
      rw [ltq, ltq]
      refine ⟨_, _, rfl, e_push, fun e he hq => ⟨by rw [if_pos q43], (fun q => by omega), fun _ _ => ?_⟩⟩
      by_cases q40 : 40 ≤ d
      · rw [if_pos q40] at he; exact nomatch he
      · rw [if_neg q40] at he
        obtain ⟨e5, h5⟩ := br_rw he
        exact rowF_pre e_push h5 hq
    · rw [if_neg (show ¬ (Int32.ofNat (kd (t + 1)) = 43) from of_ne (k := 43) (by have := hk50 (t + 1); omega) (by omega) q43), if_neg q43, if_neg q45]
      obtain ⟨u, u1, u2⟩ := nm_100f (rc := r2) (a1 := Int32.ofNat d) (a2 := Int32.ofNat t) h1.s0 h1.2.1
      rw [u1]
      exact RUN.done h1 u2 ⟨by rw [if_neg q43, if_neg q45], (fun q => by omega), fun _ q2 => by omega⟩
theorem p1_unnamed (hwr : ∀ i, wr i ≤ 8192) (hE : A2 kd wr z (d + 1) (xw kd k (d + 1)) (QW kd k (d + 1)) (fun w => rc 2 (Int32.ofNat (d + 1)) 0 0 w))
    {w : Wd} {t base : Nat} {fa : Int32} (h : IN1 kd wr z w t base fa) (hk : kd t ≠ 2) (hd : d ≤ 40) (hb : base ≤ 10 * (d + 1)) :
    RUN kd wr z (fX2_unnamed rc (Int32.ofNat d) w) w t base (xp kd k d t) fa (fun x e u => x = fmX kd k d t ∧ inP kd k (fmW kd u k) d t) := by
  have htz := h.tz
  have hz9 := h.z9
  have hk50 := h.k50 t
  unfold fX2_unnamed
  rw [ltq, a_at h.1, ltq, a_kind h.1]
  by_cases q43 : kd t = 43
  · have hpr : xp kd k d t = (if 40 ≤ d then .inl (t + 1) else sb (xw kd k (d + 1) (t + 1)) (cl_ kd 44)) := by
      show prX kd (xw kd k) d t = _
      unfold prX
      rw [if_neg (by omega), if_pos q43]
      rcases xw kd k (d + 1) (t + 1) with p | e <;> rfl
    have hfm : fmX kd k d t = 4 := if_pos q43
    rw [if_pos (show Int32.ofNat (kd t) = 43 by rw [q43]; rfl), hpr, hfm]
    refine RUN.opn (g := fun s => sb (xw kd k (d + 1) s) (cl_ kd 44)) hwr h (by omega) (by omega) hd ⟨z - 1, by rw [xw_0 h.zk]; rfl⟩ (fun v t' fa' hv hO hl => ?_)
    have ht1 : t + 1 < z := kdlt h.1 (by omega)
    have hd' : d + 1 ≤ 40 ∨ d + 1 ≤ 41 ∧ kd t' = 0 := by
      rcases hl with hl | hl
      · exact Or.inl (by omega)
      · exact Or.inr ⟨by omega, by rw [hl.2]; exact h.zk⟩
    refine RUN.bind (Q := QW kd k (d + 1) t') hwr hv.tz (hE v t' base fa' hv hb hd') ⟨z - 1, by unfold cl_; rw [if_neg (by have := h.zk; omega)]⟩ (fun x v2 t2 fa2 hv2 ht2 hO2 hl2 => ?_)
    refine (RUN.last (k := 44) (Q2 := fun x' e u => x' = 4 ∧ OFF (fun k j => PRE k j ∨ k = 4) u v2) hv2 (by omega) (by omega) (fun v3 hO3 => ⟨_, _, rfl, e_push, fun _ => ⟨rfl, OFF.tr (e_push.mono (fun _ _ hp => Or.inl hp)) (hO3.mono (fun k j hp => Or.inr hp.1))⟩⟩)).mono (fun x' e u he hO4 hq => ?_)
    rcases hl2 with ⟨q1, q2⟩ | ⟨⟨p, q1⟩, q2⟩
    · refine ⟨hq.1, fun _ => ?_, fun q => by omega⟩
      have hlive : t' = t + 1 := by
        rcases hl with hl | hl
        · exact hl.2
        · rw [hl.2, xw_0 h.zk] at q1; exact nomatch q1
      rw [← hlive]
      exact fmW_agr k (d + 1) _ _ q1 q2 (fun k j a b c d => (hq.2 k j (by unfold PRE; omega)).1)
    · unfold cl_ at he
      rw [q2, if_neg (by have := h.zk; omega)] at he
      exact nomatch he
  · rw [if_neg (show ¬ (Int32.ofNat (kd t) = 43) from of_ne (k := 43) (by omega) (by omega) q43)]
    by_cases qn : kd t = 3 ∨ kd t = 23 ∨ kd t = 24
    · have hpr : xp kd k d t = .inr (t + 1) := by
        show prX kd (xw kd k) d t = _
        unfold prX
        rw [if_pos qn]
      have hfm : fmX kd k d t = 6 := by
        unfold fmX
        rw [if_neg q43, if_neg hk]
      have hgo : ∀ s0 : Int64, RUN kd wr z (fX2_unnamed_89 rc s0 (Int32.ofNat t) (Int32.ofNat (kd t)) w) w t base (.inr (t + 1)) fa (fun x e u => x = 6 ∧ inP kd k (fmW kd u k) d t) := by
        intro s0
        have h123 : ∀ (s1 : Int64) (v : Wd), OFF PRE v w → RUN kd wr z (fX2_unnamed_123 rc s1 (Int32.ofNat t) (Int32.ofNat (kd t)) v) w t base (.inr (t + 1)) fa (fun x e u => x = 6 ∧ inP kd k (fmW kd u k) d t) := by
          intro s1 v hv
          unfold fX2_unnamed_123
          rw [lt2q]
          have hO1 : OFF PRE (fX0_word s1 v).2 w := OFF.tr e_word hv
          have h1 := h.off hO1 PRE.ok
          obtain ⟨e1, e2⟩ := a_take (k := Int32.ofNat (kd t)) h1.1 (by omega) rfl
          rw [e1, lt2q]
          have hO : OFF (fun k j => k = 4 ∧ (j = 9 ∨ j = 10)) (si (fX0_word s1 v).2 4 9 (Int32.ofNat (t + 1))) (fX0_word s1 v).2 := OFF.si ⟨rfl, Or.inl rfl⟩
          have h2 := h1.tok hO e2
          have hin : ∀ u, inP kd k (fmW kd u k) d t := fun u => ⟨fun q => by omega, fun q => by omega⟩
          refine RUN.pre (RUN.tr ?_ (LOW.tk hO) (hO.mono (fun _ _ hp => PE1.tk hp)) (show t ≤ t + 1 by omega)) hO1
          by_cases q3 : Int32.ofNat (kd t) = 3
          · rw [if_pos q3, ltq]
            exact RUN.done (Q := fun x e u => x = 6 ∧ inP kd k (fmW kd u k) d t) h2 e_push ⟨rfl, hin _⟩
          · rw [if_neg q3, ltq]
            exact RUN.done (Q := fun x e u => x = 6 ∧ inP kd k (fmW kd u k) d t) h2 e_push ⟨rfl, hin _⟩
        unfold fX2_unnamed_89
        rw [lt2q]
        by_cases q3 : Int32.ofNat (kd t) = 3
        · rw [if_pos q3, ltq]; exact h123 _ _ e_put__
        · rw [if_neg q3]; exact h123 _ _ e_put__
      rw [hpr, hfm]
      have hs : ∀ (a b : Int64), RUN kd wr z (if Int32.ofNat (kd t) = 23 then fX2_unnamed_89 rc a (Int32.ofNat t) (Int32.ofNat (kd t)) w else fX2_unnamed_89 rc b (Int32.ofNat t) (Int32.ofNat (kd t)) w) w t base (.inr (t + 1)) fa (fun x e u => x = 6 ∧ inP kd k (fmW kd u k) d t) := fun a b => by
        split
        · exact hgo _
        · exact hgo _
      by_cases q3 : kd t = 3
      · rw [if_pos (show Int32.ofNat (kd t) = 3 by rw [q3]; rfl)]; exact hs _ _
      · rw [if_neg (show ¬ (Int32.ofNat (kd t) = 3) from of_ne (k := 3) (by omega) (by omega) q3)]
        by_cases q23 : kd t = 23
        · rw [if_pos (show Int32.ofNat (kd t) = 23 by rw [q23]; rfl), if_pos (show Int32.ofNat (kd t) = 23 by rw [q23]; rfl)]; exact hgo _
        · rw [if_neg (show ¬ (Int32.ofNat (kd t) = 23) from of_ne (k := 23) (by omega) (by omega) q23), if_pos (show Int32.ofNat (kd t) = 24 by rw [show kd t = 24 by omega]; rfl), if_neg (show ¬ (Int32.ofNat (kd t) = 23) from of_ne (k := 23) (by omega) (by omega) q23)]; exact hgo _
    · have hpr : xp kd k d t = .inl t := by
        show prX kd (xw kd k) d t = _
        unfold prX
        rw [if_neg qn, if_neg q43, if_neg hk]
      rw [hpr, if_neg (show ¬ (Int32.ofNat (kd t) = 3) from of_ne (k := 3) (by omega) (by omega) (by omega)), if_neg (show ¬ (Int32.ofNat (kd t) = 23) from of_ne (k := 23) (by omega) (by omega) (by omega)), if_neg (show ¬ (Int32.ofNat (kd t) = 24) from of_ne (k := 24) (by omega) (by omega) (by omega)), ltq, ltq]
      obtain ⟨f1, f2⟩ := a_fail h.1
      exact ⟨6, _, rfl, (LOW.pre e_push).tr (LOW.tk f2), OFF.tr (e_push.mono (fun _ _ hp => hp.p)) (f2.mono (fun _ _ hp => PE1.tk hp)), fun p hp => by
        injection hp with hp
        subst hp
        exact (h.tok f2 f1).off e_push PRE.ok, fun e he => nomatch he⟩
theorem p1_dead {w : Wd} {t base : Nat} {fa a1 : Int32} (h : IN1 kd wr z w t base fa) (hk : kd t = 0) :
    ∃ u, fX2_unnamed rc a1 w = some (6, u) ∧ LOW base u w ∧ OFF (PE1 t) u w ∧ IN1 kd wr z u (z - 1) base (FA wr fa t) := by
  unfold fX2_unnamed
  rw [ltq, ltq, a_kind h.1, hk, if_neg (by decide), if_neg (by decide), if_neg (by decide), if_neg (by decide), ltq, ltq]
  obtain ⟨f1, f2⟩ := a_fail h.1
  exact ⟨_, rfl, (LOW.pre e_push).tr (LOW.tk f2), OFF.tr (e_push.mono (fun _ _ hp => hp.p)) (f2.mono (fun _ _ hp => PE1.tk hp)), (h.tok f2 f1).off e_push PRE.ok⟩
end P1
