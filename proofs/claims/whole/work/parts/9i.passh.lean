/-! THE CLASS, first pass: AIMS, places -/
section P1
variable {kd wr : Nat → Nat} {z k : Nat} {rc : TX2_typed}
theorem IN1.form {w : Wd} {t base : Nat} {fa : Int32} (h : IN1 kd wr z w t base fa) : (gi w 8 t = 0 ∨ t = z - 1 ∧ gi w 8 t = 6 ∧ 0 ≤ fa) ∧ gi w 9 t = 0 ∧ gi w 10 t = Int32.ofNat t := h.1.2.2.2.2.2.2.2.2.2 rfl t (Nat.le_refl _) h.tz
theorem fm_at {w : Wd} {t : Nat} (ht : t < 8193) : fX9_formAt (Int32.ofNat t) w = gi w 8 t := by
  unfold fX9_formAt
  rw [ltq, rgi_iN ht (by omega)]
theorem de_112 {a5 : Bool} {w : Wd} : ∃ u, fX2_designated_112 rc 0 a5 w = some (0, u) ∧ OFF PRE u w := by
  unfold fX2_designated_112
  rw [ltq]
  cases a5
  · rw [if_neg (by decide), ltq]
    split
    · rw [lt2q]; exact ⟨_, rfl, OFF.tr e_put_ e_putSymbol⟩
    · exact ⟨_, rfl, e_putSymbol⟩
  · rw [if_pos rfl, lt2q]; exact ⟨_, rfl, OFF.tr e_put__ e_putSymbol⟩
theorem de_77 {a2 a3 : Int32} {a5 : Bool} {w : Wd} (h : SY0 w) : ∃ u, fX2_designated_77 rc a2 a3 0 a5 w = some (0, u) ∧ OFF PRE u w := by
  unfold fX2_designated_77
  have h97 : ∀ s, fX2_designated_97 rc 0 s a3 0 a5 w = fX2_designated_112 rc 0 a5 w := fun s => by
    unfold fX2_designated_97
    rw [ltq, isSort_0 h, if_pos rfl]
  rw [h97, h97]
  by_cases q : a2 = 0
  · rw [if_pos q]; exact de_112
  · rw [if_neg q, ite_self]; exact de_112
def TRU : Nat → Int32 → Nat → Wd → Prop := fun _ _ _ _ => True
/-- where an AIM begins no form is known, but in the EXPRS in it -/
def fmA (kd : Nat → Nat) (w : Wd) : Nat → Nat → Nat → Prop
  | 0, _, _ => True
  | k + 1, d, s => (kd s = 15 → ∀ e1 e2, xw kd k (d + 1) (s + 1) = .inr e1 → amX kd k (d + 1) (e1 + 1) = .inr e2 → fmW kd w k (d + 1) (s + 1) ∧ fmA kd w k (d + 1) (e1 + 1) ∧ fmA kd w k (d + 1) (e2 + 1)) ∧ (kd s = 43 → gi w 8 s = 0 ∧ fmA kd w k (d + 1) (s + 1)) ∧ (kd s = 2 → gi w 8 s = 0 ∧ (kd (s + 1) = 45 → fmW kd w k (d + 1) (s + 2)))
def QA (kd : Nat → Nat) (k d t : Nat) (_ : Int32) (_ : Nat) (u : Wd) : Prop := fmA kd u k d t
theorem fmA_agr {kd : Nat → Nat} {u w : Wd} : ∀ (k d s e : Nat), amX kd k d s = .inr e → fmA kd w k d s → AG9 u w s e → fmA kd u k d s := by
  intro k
  induction k with
  | zero => exact fun _ _ _ _ _ _ => trivial
  | succ k ih =>
    intro d s e h hw hA
    obtain ⟨w1, w2, w3⟩ := hw
    have hlt := amX_lt (k + 1) _ _ _ h
    unfold amX at h
    refine ⟨fun q e1 e2 h1 h2 => ?_, fun q => ?_, fun q => ?_⟩
    · obtain ⟨g1, g2, g3⟩ := w1 q e1 e2 h1 h2
      rw [if_pos q] at h
      by_cases q40 : 40 ≤ d
      · rw [if_pos q40] at h; exact nomatch h
      · rw [if_neg q40, h1] at h
        dsimp only at h
        by_cases q16 : kd e1 = 16
        · rw [if_pos q16, h2] at h
          dsimp only at h
          by_cases q17 : kd e2 = 17
          · rw [if_pos q17] at h
            have l1 := xw_lt _ _ _ _ h1
            have l2 := amX_lt k _ _ _ h2
            have l3 := amX_lt k _ _ _ h
            exact ⟨fmW_agr k _ _ _ h1 g1 (hA.sub (by omega) (by omega)), ih _ _ _ h2 g2 (hA.sub (by omega) (by omega)), ih _ _ _ h g3 (hA.sub (by omega) (Nat.le_refl _))⟩
          · rw [if_neg q17] at h; exact nomatch h
        · rw [if_neg q16] at h; exact nomatch h
    · obtain ⟨g1, g2⟩ := w2 q
      rw [if_neg (by omega), if_pos q] at h
      refine ⟨(hA 8 s (by omega) (by omega) (by omega) (by omega)).trans g1, ?_⟩
      by_cases q40 : 40 ≤ d
      · rw [if_pos q40] at h; exact nomatch h
      · rw [if_neg q40] at h
        rcases hx : amX kd k (d + 1) (s + 1) with p | e1
        · rw [hx] at h; exact nomatch h
        · rw [hx] at h
          dsimp only at h
          by_cases q44 : kd e1 = 44
          · rw [if_pos q44] at h
            injection h with h
            exact ih _ _ _ hx g2 (hA.sub (by omega) (by omega))
          · rw [if_neg q44] at h; exact nomatch h
    · obtain ⟨g1, g2⟩ := w3 q
      rw [if_neg (by omega), if_neg (by omega), if_pos q] at h
      refine ⟨(hA 8 s (by omega) (by omega) (by omega) (by omega)).trans g1, fun q45 => ?_⟩
      rw [if_pos q45] at h
      by_cases q40 : 40 ≤ d
      · rw [if_pos q40] at h; exact nomatch h
      · rw [if_neg q40] at h
        rcases hx : xw kd k (d + 1) (s + 2) with p | e1
        · rw [hx] at h; exact nomatch h
        · rw [hx] at h
          dsimp only at h
          by_cases q46 : kd e1 = 46
          · rw [if_pos q46] at h
            injection h with h
            exact fmW_agr k _ _ _ hx (g2 q45) (hA.sub (by omega) (by omega))
          · rw [if_neg q46] at h; exact nomatch h
theorem p1_desig (hwr : ∀ i, wr i ≤ 8192) {d : Nat} {a2 : Int32} (hE : ∀ a2, A2 kd wr z (d + 1) (xw kd k (d + 1)) (QW kd k (d + 1)) (fun w => rc 0 (Int32.ofNat (d + 1)) a2 0 w)) {w : Wd} {t base : Nat} {fa : Int32} (h : IN1 kd wr z w t base fa) (hk : kd t = 2) (hd : d ≤ 40) (hb : base ≤ 10 * (d + 1)) :
    RUN kd wr z (fX2_designated rc (Int32.ofNat d) a2 w) w t base (if kd (t + 1) = 45 then (if 40 ≤ d then .inl (t + 2) else sb (xw kd k (d + 1) (t + 2)) (cl_ kd 46)) else .inr (t + 1)) fa (fun _ _ u => gi u 8 t = gi w 8 t ∧ (kd (t + 1) = 45 → fmW kd u k (d + 1) (t + 2))) := by
  have hk50 := h.k50
  unfold fX2_designated
  rw [ltq, a_at h.1, find_0 h.2.1, lt2q]
  obtain ⟨e1, e2⟩ := a_take (k := 2) h.1 (by omega) (by rw [hk]; rfl)
  rw [e1, lt2q]
  have hO : OFF (fun k j => k = 4 ∧ (j = 9 ∨ j = 10)) (si w 4 9 (Int32.ofNat (t + 1))) w := OFF.si ⟨rfl, Or.inl rfl⟩
  have h1 := h.tok hO e2
  refine RUN.tr (RUN.mono (Q := fun _ _ u => kd (t + 1) = 45 → fmW kd u k (d + 1) (t + 2)) ?_ (fun x e u _ hOu hq => ⟨(hOu 8 t (by unfold PE1; omega)).1.trans (hO 8 t (by omega)).1, hq⟩)) (LOW.tk hO) (hO.mono (fun _ _ hp => PE1.tk hp)) (show t ≤ t + 1 by omega)
  rw [ltq, a_kind h1.1]
  by_cases q45 : kd (t + 1) = 45
  · rw [if_pos (show Int32.ofNat (kd (t + 1)) = 45 by rw [q45]; rfl), if_pos q45]
    unfold fX2_designated_44
    rw [if_pos rfl]
    refine RUN.opn (g := fun s => sb (xw kd k (d + 1) s) (cl_ kd 46)) hwr h1 (by omega) (by omega) hd ⟨z - 1, by rw [xw_0 h.zk]; rfl⟩ (fun v t' fa' hv hO hl => ?_)
    have hd' : d + 1 ≤ 40 ∨ d + 1 ≤ 41 ∧ kd t' = 0 := by
      rcases hl with hl | hl
      · exact Or.inl (by omega)
      · exact Or.inr ⟨by omega, by rw [hl.2]; exact h.zk⟩
    refine RUN.bind hwr hv.tz (hE 1 v t' base fa' hv hb hd') ⟨z - 1, cl_z h.zk (by omega)⟩ (fun x v2 t2 fa2 hv2 ht2 hO2 hl2 => ?_)
    refine (RUN.last (k := 46) (Q2 := fun x' e u => OFF (fun k j => PRE k j ∨ k = 4) u v2) hv2 (by omega) (by omega) (fun v3 hO3 => ?_)).mono (fun x' e u he hO4 hq _ => ?_)
    · obtain ⟨u, u1, u2⟩ := de_77 (rc := rc) (a2 := a2) (a3 := Int32.ofNat t) (a5 := true) (w := v3) ((hO3 14 0 (by omega)).1.trans hv2.s0)
      exact ⟨_, u, u1, u2, fun _ => OFF.tr (u2.mono (fun _ _ hp => Or.inl hp)) (hO3.mono (fun k j hp => Or.inr hp.1))⟩
    · rcases hl2 with ⟨q1, q2⟩ | ⟨⟨p, q1⟩, q2⟩
      · have hlive : t' = t + 2 := by
          rcases hl with hl | hl
          · exact hl.2
          · rw [hl.2, xw_0 h.zk] at q1; exact nomatch q1
        rw [← hlive]
        exact fmW_agr k (d + 1) _ _ q1 q2 (fun k j a b c d => (hq k j (by unfold PRE; omega)).1)
      · have hz0 : kd t2 = 0 := by rw [q2]; exact h.zk
        rw [if_neg (by omega)] at he
        exact nomatch he
  · rw [if_neg (show ¬ (Int32.ofNat (kd (t + 1)) = 45) from of_ne (k := 45) (by have := hk50 (t + 1); omega) (by omega) q45), if_neg q45]
    unfold fX2_designated_44
    rw [if_neg (by decide)]
    obtain ⟨u, u1, u2⟩ := de_77 (rc := rc) (a2 := a2) (a3 := Int32.ofNat t) (a5 := false) h1.s0
    rw [u1]
    exact RUN.done h1 u2 (fun g => absurd g q45)
theorem aim_bad (hwr : ∀ i, wr i ≤ 8192) {a1 a2 : Int32} {w : Wd} {t base : Nat} {fa : Int32} (h : IN1 kd wr z w t base fa) (h15 : kd t ≠ 15) (h43 : kd t ≠ 43) (h2 : kd t ≠ 2) : RUN kd wr z (fX2_aim rc a1 a2 w) w t base (.inl t) fa (TRU t) := by
  have hk50 := h.k50 t
  have htz := h.tz
  have hz9 := h.z9
  unfold fX2_aim
  rw [ltq, a_at h.1, ltq, fm_at (by omega), ltq, a_kind h.1, if_neg (show ¬ (Int32.ofNat (kd t) = 15) from of_ne (k := 15) (by omega) (by omega) h15), if_neg (show ¬ (Int32.ofNat (kd t) = 43) from of_ne (k := 43) (by omega) (by omega) h43)]
  unfold fX2_aim_121
  rw [if_neg (show ¬ (Int32.ofNat (kd t) = 2) from of_ne (k := 2) (by omega) (by omega) h2)]
  unfold fX2_aim_149
  obtain ⟨hf, _, h10⟩ := h.form
  rcases hf with hf | ⟨q1, q2, q3⟩
  · rw [if_pos hf, ltq]
    obtain ⟨f1, f2⟩ := a_fail h.1
    exact ⟨0, _, rfl, LOW.tk f2, f2.mono (fun _ _ hp => PE1.tk hp), fun p hp => by
      injection hp with hp
      subst hp
      exact h.tok f2 f1, fun e he => nomatch he⟩
  · rw [q2, if_neg (by decide), ltq]
    unfold fX2_misfit
    have hko : fX9_kindOf (Int32.ofNat t) w = Int32.ofNat (kd t) := by
      unfold fX9_kindOf
      rw [h.1.2.2.2.2.1, if_neg (nle_iN htz (by omega)), ltq, rgi_iN (by omega) (by omega), (h.1.2.2.2.2.2.1 t htz).1]
    rw [ltq, wrong_0 h.2.1, ltq, hko, if_neg (show ¬ (Int32.ofNat (kd t) = 2) from of_ne (k := 2) (by omega) (by omega) h2)]
    unfold fX2_misfit_30
    have hen : fX9_endOf (Int32.ofNat t) w = Int32.ofNat t := by
      unfold fX9_endOf
      rw [ltq, rgi_iN (by omega) (by omega), h10]
    rw [ltq, hen, ltq]
    unfold fX9_goTo
    rw [ltq]
    have hO : OFF (fun k j => k = 4 ∧ (j = 9 ∨ j = 10)) (si w 4 9 (Int32.ofNat t)) w := OFF.si ⟨rfl, Or.inl rfl⟩
    refine ⟨0, _, rfl, LOW.tk hO, hO.mono (fun _ _ hp => PE1.tk hp), fun p hp => ?_, fun e he => nomatch he⟩
    have hfa : FA wr fa p = fa := if_pos q3
    rw [hfa, ← q1]
    exact h.tok hO (h.1.go htz (Nat.le_refl _))
theorem amX_0 {t : Nat} (h : kd t = 0) : ∀ k d, amX kd k d t = .inl t := by
  intro k d
  cases k with
  | zero => rfl
  | succ k =>
    unfold amX
    rw [if_neg (by omega), if_neg (by omega), if_neg (by omega)]
theorem p1_aim (hwr : ∀ i, wr i ≤ 8192) (hz1 : ∀ i, i + 1 < z → kd i ≠ 0) : ∀ k d G (a2 : Int32), 41 ≤ k + d → 6 * k + 12 ≤ G → A2 kd wr z d (amX kd k d) (QA kd k d) (fun w => RX2_typed G 11 (Int32.ofNat d) a2 0 w) := by
  intro k
  induction k with
  | zero =>
    intro d G a2 hk hG w t base fa h hb hd
    have hk0 : kd t = 0 := (hd.resolve_left (by omega)).2
    obtain ⟨G1, rfl⟩ : ∃ G1, G = G1 + 1 := ⟨G - 1, by omega⟩
    exact (aim_bad (rc := RX2_typed G1) hwr h (by omega) (by omega) (by omega)).mono (fun _ _ _ he _ _ => nomatch he)
  | succ k ih =>
    intro d G a2 hk hG w t base fa h hb hd
    obtain ⟨G1, rfl⟩ : ∃ G1, G = G1 + 3 := ⟨G - 3, by omega⟩
    have htz := h.tz
    have hz9 := h.z9
    have hk50 := h.k50
    have hE := ex1_all hwr hz1 k
    have hEt : ∀ G2, 6 * k + 6 ≤ G2 → ∀ a2, A2 kd wr z (d + 1) (xw kd k (d + 1)) (QW kd k (d + 1)) (fun w => RX2_typed (G2 + 1) 0 (Int32.ofNat (d + 1)) a2 0 w) := fun G2 hG2 a2 => a2_tQ (rc := RX2_typed G2) (hE G2 (d + 1) (by omega) (by omega))
    show RUN kd wr z (fX2_aim (RX2_typed (G1 + 2)) (Int32.ofNat d) a2 w) w t base (amX kd (k + 1) d t) fa (QA kd (k + 1) d t)
    by_cases q15 : kd t = 15
    · have hd40 : d ≤ 40 := by
        rcases hd with hd | hd
        · exact hd
        · omega
      have ham : amX kd (k + 1) d t = sb (ifO kd k d t) (fun t1 => sb (amX kd k (d + 1) t1) (fun t2 => if kd t2 = 17 then amX kd k (d + 1) (t2 + 1) else .inl t2)) := by
        conv => lhs; unfold amX
        unfold ifO
        rw [if_pos q15]
        by_cases q : 40 ≤ d
        · rw [if_pos q, if_pos q]; rfl
        · rw [if_neg q, if_neg q]
          rcases xw kd k (d + 1) (t + 1) with p | e1
          · rfl
          · show (if kd e1 = 16 then _ else _) = sb (cl_ kd 16 e1) _
            unfold cl_
            by_cases q16 : kd e1 = 16
            · rw [if_pos q16, if_pos q16]
              show _ = sb (amX kd k (d + 1) (e1 + 1)) _
              rcases amX kd k (d + 1) (e1 + 1) with p | e2 <;> rfl
            · rw [if_neg q16, if_neg q16]; rfl
      rw [ham]
      unfold fX2_aim
      rw [ltq, ltq, ltq, a_kind h.1, if_pos (show Int32.ofNat (kd t) = 15 by rw [q15]; rfl)]
      have ht1 : t + 1 < z := kdlt h.1 (by omega)
      have hT := p1_test (rc := RX2_typed (G1 + 1)) hwr (hEt G1 (by omega)) h (by omega) (by omega) hd40 (by omega)
      have hdl : ∀ {t'}, (d + 1 ≤ 40 ∨ t' = z - 1) → d + 1 ≤ 40 ∨ d + 1 ≤ 41 ∧ kd t' = 0 := fun q => q.elim Or.inl (fun q => Or.inr ⟨by omega, by rw [q]; exact h.zk⟩)
      refine RUN.bind hwr htz hT ⟨z - 1, by rw [amX_0 h.zk]; rfl⟩ (fun x5 v1 t1 fa1 hv1 htt1 hO1 hl1 => ?_)
      have hd1 : d + 1 ≤ 40 ∨ t1 = z - 1 := by
        rcases hl1 with ⟨l1, _⟩ | ⟨_, l2⟩
        · unfold ifO at l1
          by_cases q40 : 40 ≤ d
          · rw [if_pos q40] at l1; exact nomatch l1
          · exact Or.inl (by omega)
        · exact Or.inr l2
      rw [ad1_iN]
      refine RUN.bind hwr hv1.tz (ih (d + 1) (G1 + 2) a2 (by omega) (by omega) v1 t1 base fa1 hv1 (by omega) (hdl hd1)) ⟨z - 1, by rw [if_neg (by have := h.zk; omega)]⟩ (fun x7 v2 t2 fa2 hv2 htt2 hO2 hl2 => ?_)
      have hd2 : d + 1 ≤ 40 ∨ t2 = z - 1 := by
        rcases hd1 with hd1 | hd1
        · exact Or.inl hd1
        · have := hv2.tz; exact Or.inr (by omega)
      rw [ot_eq]
      refine RUN.need (k := 17) (g := fun s => amX kd k (d + 1) s) hwr hv2 (by omega) (by omega) ⟨z - 1, Or.inl (amX_0 h.zk k (d + 1))⟩ (fun v3 t3 fa3 hv3 hO32 hl3 => ?_)
      have hp5 : OFF PRE (fX0_patch x5 (fX0_put__ 33 v3).2).2 v3 := OFF.tr e_patch e_put__
      have hv5 := hv3.off hp5 PRE.ok
      have hd3 : d + 1 ≤ 40 ∨ t3 = z - 1 := by
        rcases hd2 with hd2 | hd2
        · exact Or.inl hd2
        · have := hv3.tz
          have := h.zk
          rw [← hd2] at this
          omega
      show RUN kd wr z (bn2 (RX2_typed (G1 + 2) 11 (Int32.ofNat (d + 1)) a2 0 (fX0_patch x5 (fX0_put__ 33 v3).2).2) _) v3 t3 base _ fa3 _
      refine RUN.pre ?_ hp5
      refine (ih (d + 1) (G1 + 2) a2 (by omega) (by omega) _ t3 base fa3 hv5 (by omega) (hdl hd3)).post (fun x v hv => ⟨_, _, rfl, e_patch, fun e he hq => ⟨fun _ e1 e2 h1 h2 => ?_, fun g => by omega, fun g => by omega⟩⟩)
      have hk3 : kd t3 ≠ 0 := fun g => by
        rw [amX_0 g] at he
        exact nomatch he
      have hzz := h.zk
      have ht3 : t3 ≠ z - 1 := fun g => hk3 (by rw [g]; exact hzz)
      obtain ⟨q17, ht32⟩ := hl3.resolve_right (fun g => ht3 g.2)
      have ht2z : t2 ≠ z - 1 := fun g => by rw [g, hzz] at q17; omega
      obtain ⟨m1, m2⟩ := hl2.resolve_right (fun g => ht2z g.2)
      have := hv2.tz
      obtain ⟨n1, n2⟩ := hl1.resolve_right (fun g => ht2z (by have := g.2; omega))
      obtain ⟨n3, n4⟩ := n2 e1 h1
      have htm : t2 = e2 := by
        rw [n3, h2] at m1
        injection m1 with m1
        exact m1.symm
      have m2' : fmA kd v2 k (d + 1) t1 := m2
      have hq' : fmA kd v k (d + 1) t3 := hq
      have l1 := xw_lt _ _ _ _ h1
      have l2 := amX_lt k _ _ _ h2
      have hvv : ∀ k j, 8 ≤ k → k ≤ 10 → j < t3 → gi (fX0_patch (fX0_put__ 33 v3).1 v).2 k j = gi v2 k j := fun k j a b c => by
        rw [((e_patch (a := (fX0_put__ 33 v3).1) (w := v)) k j (by unfold PRE; omega)).1, (hv k j (by unfold PE1; omega)).1, (hp5 k j (by unfold PRE; omega)).1, (hO32 k j (by omega)).1]
      rw [n3] at m2'
      rw [ht32, htm] at hq'
      refine ⟨fmW_agr k (d + 1) _ _ h1 n4 (fun k j a b c d => (hvv k j a b (by omega)).trans (hO2 k j (by unfold PE1; omega)).1), fmA_agr k (d + 1) _ _ h2 m2' (fun k j a b c d => hvv k j a b (by omega)), ?_⟩
      rw [ht32, htm] at he
      exact fmA_agr k (d + 1) _ _ he hq' (fun k j a b c d => (e_patch k j (by unfold PRE; omega)).1)
    · by_cases q43 : kd t = 43
      · have hd40 : d ≤ 40 := by
          rcases hd with hd | hd
          · exact hd
          · omega
        have ham : amX kd (k + 1) d t = (if 40 ≤ d then .inl (t + 1) else sb (amX kd k (d + 1) (t + 1)) (cl_ kd 44)) := by
          conv => lhs; unfold amX
          rw [if_neg q15, if_pos q43]
          by_cases q : 40 ≤ d
          · rw [if_pos q, if_pos q]
          · rw [if_neg q, if_neg q]
            rcases amX kd k (d + 1) (t + 1) with p | e1 <;> rfl
        rw [ham]
        have ht1 : t + 1 < z := kdlt h.1 (by omega)
        have hf0 : gi w 8 t = 0 := by
          rcases h.form.1 with q | q
          · exact q
          · omega
        unfold fX2_aim
        rw [ltq, a_at h.1, ltq, fm_at (by omega), hf0, ltq, a_kind h.1, if_neg (show ¬ (Int32.ofNat (kd t) = 15) from of_ne (k := 15) (by have := hk50 t; omega) (by omega) q15), if_pos (show Int32.ofNat (kd t) = 43 by rw [q43]; rfl), if_neg (by decide)]
        refine RUN.opn (g := fun s => sb (amX kd k (d + 1) s) (cl_ kd 44)) hwr h (by omega) (by omega) hd40 ⟨z - 1, by rw [amX_0 h.zk]; rfl⟩ (fun v t' fa' hv hO hl => ?_)
        have hd' : d + 1 ≤ 40 ∨ d + 1 ≤ 41 ∧ kd t' = 0 := by
          rcases hl with hl | hl
          · exact Or.inl (by omega)
          · exact Or.inr ⟨by omega, by rw [hl.2]; exact h.zk⟩
        refine RUN.bind hwr hv.tz (ih (d + 1) (G1 + 2) a2 (by omega) (by omega) v t' base fa' hv (by omega) hd') ⟨z - 1, cl_z h.zk (by omega)⟩ (fun x v2 t2 fa2 hv2 ht2 hO2 hl2 => ?_)
        refine (RUN.last (k := 44) (Q2 := fun x' e u => OFF (fun k j => k = 4 ∧ (j = 9 ∨ j = 10)) u v2) hv2 (by omega) (by omega) (fun v3 hO3 => ⟨_, _, rfl, OFF.rf, fun _ => hO3⟩)).mono (fun x' e u he hO4 hq => ⟨fun g => by omega, fun _ => ⟨?_, ?_⟩, fun g => by omega⟩)
        · rw [(hq 8 t (by omega)).1, (hO2 8 t (by unfold PE1; omega)).1, (hO 8 t (by omega)).1]
          exact hf0
        · rcases hl2 with ⟨m1, m2⟩ | ⟨_, m2⟩
          · have hlive : t' = t + 1 := by
              rcases hl with hl | hl
              · exact hl.2
              · rw [hl.2, amX_0 h.zk] at m1; exact nomatch m1
            have m3 : fmA kd v2 k (d + 1) t' := m2
            rw [hlive] at m1 m3
            exact fmA_agr k (d + 1) _ _ m1 m3 (fun k j a b c d => (hq k j (by omega)).1)
          · have hz0 : kd t2 = 0 := by rw [m2]; exact h.zk
            rw [if_neg (by omega)] at he
            exact nomatch he
      · by_cases q2 : kd t = 2
        · have hd40 : d ≤ 40 := by
            rcases hd with hd | hd
            · exact hd
            · omega
          have ham : amX kd (k + 1) d t = (if kd (t + 1) = 45 then (if 40 ≤ d then .inl (t + 2) else sb (xw kd k (d + 1) (t + 2)) (cl_ kd 46)) else .inr (t + 1)) := by
            unfold amX
            rw [if_neg q15, if_neg q43, if_pos q2]
            by_cases q45 : kd (t + 1) = 45
            · rw [if_pos q45, if_pos q45]
              by_cases q : 40 ≤ d
              · rw [if_pos q, if_pos q]
              · rw [if_neg q, if_neg q]
                rcases xw kd k (d + 1) (t + 2) with p | e1 <;> rfl
            · rw [if_neg q45, if_neg q45]
          rw [ham]
          have ht1 : t + 1 < z := kdlt h.1 (by omega)
          have hf0 : gi w 8 t = 0 := by
            rcases h.form.1 with q | q
            · exact q
            · omega
          unfold fX2_aim
          rw [ltq, a_at h.1, ltq, fm_at (by omega), hf0, ltq, a_kind h.1, if_neg (show ¬ (Int32.ofNat (kd t) = 15) from of_ne (k := 15) (by have := hk50 t; omega) (by omega) q15), if_neg (show ¬ (Int32.ofNat (kd t) = 43) from of_ne (k := 43) (by have := hk50 t; omega) (by omega) q43)]
          unfold fX2_aim_121
          rw [if_pos (show Int32.ofNat (kd t) = 2 by rw [q2]; rfl), if_neg (show ¬ ((0 : Int32) = 6) by decide), if_neg (show ¬ ((0 : Int32) = 3) by decide)]
          exact (p1_desig (rc := RX2_typed (G1 + 1)) (a2 := a2) hwr (hEt G1 (by omega)) h q2 hd40 (by omega)).post (fun x v hv => ⟨_, _, rfl, OFF.rf, fun e he hq => ⟨fun g => by omega, fun g => by omega, fun _ => ⟨hq.1.trans hf0, hq.2⟩⟩⟩)
        · have ham : amX kd (k + 1) d t = .inl t := by
            unfold amX
            rw [if_neg q15, if_neg q43, if_neg q2]
          rw [ham]
          exact (aim_bad (rc := RX2_typed (G1 + 2)) hwr h q15 q43 q2).mono (fun _ _ _ he _ _ => nomatch he)
/-- a place: NAME, or NAME [ .. ] -/
def plX (kd : Nat → Nat) (k d t : Nat) : Sum Nat Nat := if kd t = 2 then (if kd (t + 1) = 45 then (if 40 ≤ d then .inl (t + 2) else br_ kd (xw kd k (d + 1)) 46 (t + 2)) else .inr (t + 1)) else .inl t
theorem pl_99 {w : Wd} {t : Nat} : ∃ x u, fX2_place_99 rc 0 w = some (x, u) ∧ OFF PRE u w := by
  unfold fX2_place_99
  rw [ltq]
  split
  · rw [ltq, ltq]; exact ⟨_, _, rfl, e_use⟩
  · rw [ltq, ltq, lt2q, ltq]; exact ⟨_, _, rfl, e_put⟩
theorem p1_place (hwr : ∀ i, wr i ≤ 8192) {d : Nat} {a2 : Int32} (hE : ∀ a2, A2 kd wr z (d + 1) (xw kd k (d + 1)) (QW kd k (d + 1)) (fun w => rc 0 (Int32.ofNat (d + 1)) a2 0 w)) (r2 : TX2_typed) (h6 : ∀ a b c w, r2 6 a b c w = fX2_element rc a b c w) {w : Wd} {t base : Nat} {fa : Int32} (h : IN1 kd wr z w t base fa) (hd : d ≤ 40 ∨ kd t = 0) (hb : base ≤ 10 * (d + 1)) :
    RUN kd wr z (fX2_place r2 (Int32.ofNat d) a2 w) w t base (plX kd k d t) fa (fun _ e u => kd (t + 1) = 45 → rowF kd (xw kd k (d + 1)) (fun s => fmW kd u k (d + 1) s) (9000 - (t + 2)) (t + 2)) := by
  have hk50 := h.k50
  have htz := h.tz
  unfold fX2_place plX
  rw [ltq, a_at h.1, find_0 h.2.1, lt2q]
  have hgo : ∀ v, OFF (fun k j => k = 4 ∧ (j = 9 ∨ j = 10)) v w → ∃ x u, (lt (fX8_sort 0 v) fun x10 => if x10 = 3 then (lt2 (fX2_result 0 (Int32.ofNat t) a2 v) fun x12 w13 => some (x12, w13)) else (lt (fX1_isSort 0 1 v) fun x14 => if x14 = true then (fX2_place_99 r2 0 v) else (lt (fX1_wrong (Int32.ofNat t) 4 v) fun w16 => fX2_place_99 r2 0 w16))) = some (x, u) ∧ OFF PRE u v := by
    intro v hO
    have hs : SY0 v := (hO 14 0 (by omega)).1.trans h.s0
    rw [ltq, sort_0 hs, if_neg (by decide), ltq, isSort_0 hs, if_pos rfl]
    exact pl_99 (t := 0)
  by_cases q2 : kd t = 2
  · have hd40 : d ≤ 40 := by
      rcases hd with hd | hd
      · exact hd
      · omega
    rw [if_pos q2]
    obtain ⟨n1, _, n3⟩ := a_need (k := 2) h.1 (by omega) (by omega)
    have h1 := h.tok n3 (n1 q2)
    show RUN kd wr z (lt (fX9_need (Int32.ofNat 2) w) _) w t base _ fa _
    rw [ltq]
    refine RUN.tr ?_ (LOW.tk n3) (n3.mono (fun _ _ hp => PE1.tk hp)) (show t ≤ t + 1 by omega)
    rw [ltq, a_kind h1.1]
    by_cases q45 : kd (t + 1) = 45
    · rw [if_pos (show Int32.ofNat (kd (t + 1)) = 45 by rw [q45]; rfl), if_pos q45, h6]
      exact (el_all hwr hE h1 q45 hd40 hb).post (fun x v hv => ⟨_, _, rfl, OFF.rf, fun e he hq _ => hq.2⟩)
    · rw [if_neg (show ¬ (Int32.ofNat (kd (t + 1)) = 45) from of_ne (k := 45) (by have := hk50 (t + 1); omega) (by omega) q45), if_neg q45]
      obtain ⟨x, u, u1, u2⟩ := hgo _ n3
      rw [u1]
      exact RUN.done h1 u2 (fun q => absurd q q45)
  · rw [if_neg q2]
    obtain ⟨_, n2, n3⟩ := a_need (k := 2) h.1 (by omega) (by omega)
    have h1 := h.tok n3 (n2 q2)
    show RUN kd wr z (lt (fX9_need (Int32.ofNat 2) w) _) w t base _ fa _
    rw [ltq, ltq, a_kind h1.1, if_neg (show ¬ (Int32.ofNat (kd (z - 1)) = 45) from of_ne (k := 45) (by have := hk50 (z - 1); omega) (by omega) (by have := h.zk; omega))]
    obtain ⟨x, u, u1, u2⟩ := hgo _ n3
    rw [u1]
    exact ⟨x, u, rfl, (LOW.pre u2).tr (LOW.tk n3), OFF.tr (u2.mono (fun _ _ hp => hp.p)) (n3.mono (fun _ _ hp => PE1.tk hp)), fun p hp => by
      injection hp with hp
      subst hp
      exact h1.off u2 PRE.ok, fun e he => nomatch he⟩
end P1
