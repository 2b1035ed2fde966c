/-! THE CLASS, first pass: EXPRS -/
section P1
variable {kd wr : Nat → Nat} {z k : Nat} {rc : TX2_typed}
theorem inP_k {u v : Wd} {d t e : Nat} (h : xp kd k d t = .inr e) (hP : inP kd k (fmW kd v k) d t) (hA : AG9 u v t e) : inP kd k (fmW kd u k) d t :=
  inP_agr (fun d s e => fmW_agr k d s e) h hP hA
/-- forms of PRIMARIES of which it's known that they end -/
def J1g (kd : Nat → Nat) (k : Nat) (w0 : Wd) (t0 : Nat) (ev : List EV) (w : Wd) : Prop := J1 w0 t0 ev w ∧ SY0 w ∧ ∀ x ∈ ev, x.1 = 0 → (∃ e, xp kd k x.2.2 x.2.1 = .inr e) → inP kd k (fmW kd w k) x.2.2 x.2.1
theorem J1g.pre {w0 : Wd} {t0 : Nat} {ev ev' : List EV} {u w : Wd} (h : J1g kd k w0 t0 ev w) (hO : OFF PRE u w) (he : ∀ x ∈ ev', x.1 = 0 → x ∈ ev) : J1g kd k w0 t0 ev' u :=
  ⟨h.1.pre hO, sy_pre hO h.2.1, fun x hx h0 ⟨e, he'⟩ => inP_k he' (h.2.2 x (he x hx h0) h0 ⟨e, he'⟩) (fun k j a b c d => (hO k j (by unfold PRE; omega)).1)⟩
theorem jx1g {w0 : Wd} {t0 base : Nat} : JX base (J1g kd k w0 t0) := by
  refine ⟨fun ev w s h _ h1 => h.pre (e_one h.1.1) (fun x hx h0 => ?_), fun ev w s h _ h1 => h.pre (e_two h.1.1) (fun x hx h0 => ?_), fun ev u w h hO => ⟨jx1.2.2 ev u w h.1 hO, (hO 14 0 (by unfold PSG; omega)).1.trans h.2.1, fun x hx h0 ⟨e, he⟩ => inP_k he (h.2.2 x hx h0 ⟨e, he⟩) (fun k j a b c d => (hO k j (by unfold PSG; omega)).1)⟩⟩
  · rcases List.mem_append.mp hx with hx | hx
    · exact hx
    · rw [List.mem_singleton.mp hx] at h0; omega
  · rcases List.mem_append.mp hx with hx | hx
    · exact hx
    · rw [List.mem_singleton.mp hx] at h0; omega
theorem form_eq {w : Wd} {t s : Nat} {fa fm : Int32} {b : Bool} (hT : CT kd wr true z w t fa) (hs : s ≤ t) : fX9_form (Int32.ofNat s) fm b w = si (si (si w 8 s fm) 9 s (b2i b)) 10 s (Int32.ofNat t) := by
  have hz := hT.2.1
  have htz := hT.2.2.2.2.2.2.1
  have h23 : ∀ b' : Bool, fX9_form_23 (Int32.ofNat s) b' (Int32.ofNat s) (si w 8 s fm) = si (si (si w 8 s fm) 9 s (b2i b')) 10 s (Int32.ofNat t) := by
    intro b'
    unfold fX9_form_23
    rw [ltq, rsi_iN (n := s) (m := 8193) (by omega) (by omega), ltq, rsi_iN (n := s) (m := 8193) (by omega) (by omega), gi_si1 (by omega), gi_si1 (by omega), hT.2.2.2.2.2.2.2.1]
  unfold fX9_form
  rw [ltq, rsi_iN (n := s) (m := 8193) (by omega) (by omega)]
  cases b
  · rw [if_neg (by decide)]; exact h23 false
  · rw [if_pos rfl]; exact h23 true
/-- what's in a PRIMARY lies behind its first TOKEN -/
theorem inP_own {u v : Wd} {d t e : Nat} (h : xp kd k d t = .inr e) (hP : inP kd k (fmW kd v k) d t) (hA : AG9 u v (t + 1) e) : inP kd k (fmW kd u k) d t := by
  refine ⟨fun q => ?_, fun q q2 => ?_⟩
  · have h' : prX kd (xw kd k) d t = .inr e := h
    unfold prX at h'
    rw [if_neg (by omega), if_pos q] at h'
    by_cases q40 : 40 ≤ d
    · rw [if_pos q40] at h'; exact nomatch h'
    · rw [if_neg q40] at h'
      rcases hx : xw kd k (d + 1) (t + 1) with p | e1
      · rw [hx] at h'; exact nomatch h'
      · rw [hx] at h'
        dsimp only at h'
        by_cases q44 : kd e1 = 44
        · rw [if_pos q44] at h'
          injection h' with h'
          exact fmW_agr k _ _ _ hx (hP.1 q) (hA.sub (by omega) (by omega))
        · rw [if_neg q44] at h'; exact nomatch h'
  · have hb : ∃ c, br_ kd (xw kd k (d + 1)) c (t + 2) = .inr e := by
      have h' : prX kd (xw kd k) d t = .inr e := h
      unfold prX at h'
      rw [if_neg (by omega), if_neg (by omega), if_pos q] at h'
      rcases q2 with q2 | q2
      · rw [if_pos q2] at h'
        by_cases q40 : 40 ≤ d
        · rw [if_pos q40] at h'; exact nomatch h'
        · rw [if_neg q40] at h'; exact ⟨44, h'⟩
      · rw [if_neg (by omega), if_pos q2] at h'
        by_cases q40 : 40 ≤ d
        · rw [if_pos q40] at h'; exact nomatch h'
        · rw [if_neg q40] at h'; exact ⟨46, h'⟩
    obtain ⟨c, hb⟩ := hb
    have hb2 := hb
    unfold br_ at hb2
    rcases hx : rw_ kd (xw kd k (d + 1)) (9000 - (t + 2)) (t + 2) with p | e1
    · rw [hx] at hb2; exact nomatch hb2
    · rw [hx] at hb2
      dsimp only at hb2
      by_cases qc : kd e1 = c
      · rw [if_pos qc] at hb2
        injection hb2 with hb2
        exact rowF_agr (u := u) (w := v) (xw_lt k (d + 1)) (fun t e => fmW_agr k (d + 1) t e) _ _ _ hx (hP.2 q q2) (hA.sub (by omega) (by omega))
      · rw [if_neg qc] at hb2; exact nomatch hb2
/-- expressions of all DEPTHS that k leaves -/
def EX1 (kd wr : Nat → Nat) (z k F : Nat) : Prop := ∀ G d, F ≤ G → 41 ≤ k + d → A2 kd wr z d (xw kd k d) (QW kd k d) (fun w => RX2_typed G 2 (Int32.ofNat d) 0 0 w)
theorem a2_typed {d : Nat} {f : Nat → Sum Nat Nat} {Q : Nat → Int32 → Nat → Wd → Prop} {a2 : Int32} (h : A2 kd wr z d f Q (fun w => rc 2 (Int32.ofNat d) 0 0 w)) : A2 kd wr z d f (fun t _ e u => ∃ x, Q t x e u) (fun w => fX2_typed rc (Int32.ofNat d) a2 w) := by
  intro w t base fa hT hb hd
  obtain ⟨x, u, u1, u2, u3, u4, u5⟩ := h w t base fa hT hb hd
  dsimp only at u1
  refine ⟨0, u, ?_, u2, u3, u4, fun e he => ⟨(u5 e he).1, (u5 e he).2.1, x, (u5 e he).2.2⟩⟩
  show fX2_typed rc (Int32.ofNat d) a2 w = _
  unfold fX2_typed
  rw [ltq, u1, bn2_so, check_0 ((PE1.k35 u3).trans hT.2.1), ltq]
theorem a2_tQ {d : Nat} {a2 : Int32} (h : A2 kd wr z d (xw kd k d) (QW kd k d) (fun w => rc 2 (Int32.ofNat d) 0 0 w)) : A2 kd wr z d (xw kd k d) (QW kd k d) (fun w => fX2_typed rc (Int32.ofNat d) a2 w) := fun w t base fa hT hb hd =>
  ((a2_typed (a2 := a2) h) w t base fa hT hb hd).mono (fun _ _ _ _ _ hq => hq.elim (fun _ hq => hq))
theorem prm1 (hwr : ∀ i, wr i ≤ 8192) {F d0 base t0 : Nat} {w0 : Wd} (hE : d0 ≤ 40 → EX1 kd wr z k F) (hk : 40 ≤ k + d0) {G : Nat} (hG : F + 2 ≤ G) : PRM kd wr true z base d0 t0 (xp kd k) (J1g kd k w0 t0) (RX2_typed (G + 2)) (fmX kd k) := by
  intro S ev w t fa hT hW hd hq ht0
  obtain ⟨h1, h2, h3, h4, h5, h6, h7⟩ := hW
  have hS := h4.le
  have hin : IN1 kd wr z w t (base + S.length) fa := ⟨hT, h5.1.1, h5.2.1, h1⟩
  have hmove : ∀ u, OFF (PE1 t) u w → gi u 43 4 = Int32.ofNat (base + S.length) → J1 w0 t0 ev u ∧ SY0 u ∧ gi u 43 4 = gi w 43 4 := fun u hO hu => ⟨⟨(PE1.k35 hO).trans h5.1.1, OFF.tr (hO.mono (fun _ _ hp => hp.le ht0)) h5.1.2⟩, PE1.sy hO h5.2.1, hu.trans h1.symm⟩
  by_cases q0 : kd t = 0
  · obtain ⟨u, a, b, c, e⟩ := p1_dead (rc := RX2_typed (G + 1)) (a1 := Int32.ofNat (d0 + notS S)) hin q0
    obtain ⟨m1, m2, m3⟩ := hmove u c e.2.2.2
    refine ⟨6, u, ?_, fun _ => rfl, m3, b, fun p hp => ⟨?_, [], m1, m2, fun x hx => absurd hx (by simp)⟩, fun e' he => ?_⟩
    · rw [if_neg (by omega)]
      exact a
    · have h0 : xp kd k (d0 + notS S) t = .inl t := prX_0 (by omega)
      rw [h0] at hp
      injection hp with hp
      rw [← hp]
      exact e.1
    · have h0 : xp kd k (d0 + notS S) t = .inl t := prX_0 (by omega)
      rw [h0] at he
      exact nomatch he
  · have hd40 : d0 + notS S ≤ 40 := hd.resolve_right q0
    have hfin : ∀ r, RUN kd wr z r w t (base + S.length) (xp kd k (d0 + notS S) t) fa (fun x e u => x = fmX kd k (d0 + notS S) t ∧ inP kd k (fmW kd u k) (d0 + notS S) t) → ∃ fm u, r = some (fm, u) ∧ (kd t = 0 → fm = 6) ∧ gi u 43 4 = gi w 43 4 ∧ LOW (base + S.length) u w ∧ (∀ p, xp kd k (d0 + notS S) t = .inl p → CT kd wr true z u (z - 1) (FA wr fa p) ∧ ∃ ev', J1g kd k w0 t0 ev' u) ∧ ∀ e, xp kd k (d0 + notS S) t = .inr e → CT kd wr true z u e fa ∧ J1g kd k w0 t0 (ev ++ [(0, t, d0 + notS S)]) u ∧ fm = fmX kd k (d0 + notS S) t := by
      intro r hr
      obtain ⟨x, v, a, b, c, e, g⟩ := hr
      have hv : gi v 43 4 = Int32.ofNat (base + S.length) := by
        rcases hx : xp kd k (d0 + notS S) t with p | e'
        · exact (e p hx).2.2.2
        · exact (g e' hx).2.1.2.2.2
      obtain ⟨m1, m2, m3⟩ := hmove v c hv
      refine ⟨x, v, a, fun h => absurd h q0, m3, b, fun p hp => ⟨(e p hp).1, [], m1, m2, fun x hx => absurd hx (by simp)⟩, fun e' he => ?_⟩
      obtain ⟨g1, g2, g3, g4⟩ := g e' he
      refine ⟨g2.1, ⟨m1, m2, fun y hy hy0 hye => ?_⟩, g3⟩
      rcases List.mem_append.mp hy with hy | hy
      · obtain ⟨_, e2, k2, k3⟩ := hq y hy hy0
        exact inP_k k2 (h5.2.2 y hy hy0 ⟨e2, k2⟩) (AG9.pe c k3)
      · rw [List.mem_singleton.mp hy]
        exact g4
    have hEd : ∀ r, F ≤ r → A2 kd wr z (d0 + notS S + 1) (xw kd k (d0 + notS S + 1)) (QW kd k (d0 + notS S + 1)) (fun w => RX2_typed r 2 (Int32.ofNat (d0 + notS S + 1)) 0 0 w) := fun r hr => hE (by omega) r _ hr (by omega)
    by_cases q2 : kd t = 2
    · rw [if_pos q2]
      refine hfin _ ?_
      obtain ⟨G1, rfl⟩ : ∃ G1, G = G1 + 1 := ⟨G - 1, by omega⟩
      exact p1_named (rc := RX2_typed (G1 + 1)) hwr (fun a2 => a2_tQ (rc := RX2_typed G1) (hEd G1 (by omega))) (a2_actual (rc := RX2_typed G1) (hEd G1 (by omega))) (RX2_typed (G1 + 2)) (fun _ _ _ _ => rfl) (fun _ _ _ _ => rfl) hin q2 hd40 (by omega)
    · rw [if_neg q2]
      refine hfin _ ?_
      exact p1_unnamed (rc := RX2_typed (G + 1)) hwr (hEd (G + 1) (by omega)) hin q2 hd40 (by omega)
/-- a simple EXPR -/
theorem p1_simple (hwr : ∀ i, wr i ≤ 8192) (hz1 : ∀ i, i + 1 < z → kd i ≠ 0) {F d0 : Nat} (hE : d0 ≤ 40 → EX1 kd wr z k F) (hk : 40 ≤ k + d0) {G : Nat} (hG : F + 2 ≤ G) : A2 kd wr z d0 (smX kd (xp kd k) d0) (fun t _ e u => fmS kd k (fmW kd u k) u d0 t) (fun w => fX2_simple (RX2_typed (G + 2)) (Int32.ofNat d0) w) := by
  intro w t base fa h hb hd
  have htz := h.tz
  have hz9 := h.z9
  have hP : PRM kd wr true z base d0 t (xp kd k) (J1g kd k w t) (RX2_typed (G + 2)) (fmX kd k) := prm1 hwr hE hk hG
  have hJ0 : J1g kd k w t [] w := ⟨⟨h.2.1, OFF.rf⟩, h.s0, fun x hx => absurd hx (by simp)⟩
  have hz0 : ∀ d t, kd t = 0 → xp kd k d t = .inl t := fun d t h => prX_0 (by omega)
  have hW : CW (J1g kd k w t) base d0 [] [] w := ⟨by rw [h.2.2.2]; rfl, trivial, fun s hs => absurd hs (by simp), trivial, hJ0, hb, by
    show d0 + 0 ≤ 41
    omega⟩
  have hend : ∀ (w' : Wd) (fm : Int32) (ev' : List EV) (t' : Nat) (fa' : Int32), CT kd wr true z w' t' fa' → CW (J1g kd k w t) base d0 [] ev' w' → LOW base w' w → t ≤ t' → (t = t' → t = z - 1 ∧ fm = 6 ∧ 0 ≤ fa') → ∃ x u, fX2_simple_129 (RX2_typed (G + 2)) (Int32.ofNat t) fm w' = some (x, u) ∧ LOW base u w ∧ OFF (PE1 t) u w ∧ IN1 kd wr z u t' base fa' ∧ (∀ k j, ¬ (8 ≤ k ∧ k ≤ 10 ∧ j = t) → k ≠ 43 → gi u k j = gi w' k j) ∧ gi u 8 t = fm ∧ gi u 9 t = b2i (amB fm t w') ∧ gi u 10 t = Int32.ofNat t' := by
    intro w' fm ev' t' fa' hT' hW' hL' htt hs9
    obtain ⟨f1, f2, f3, f4, f5⟩ := c_form (s := t) (fm := fm) (b := amB fm t w') hT' htt (fun q => ⟨(hs9 q).1, by rw [(hs9 q).2.1]; unfold amB; rw [if_neg (by decide), if_neg (by decide)], (hs9 q).2.1, (hs9 q).2.2⟩)
    rw [c_129]
    have hp : OFF PRE (fX10_pop (fX9_form (Int32.ofNat t) fm (amB fm t w') w')).2 (fX9_form (Int32.ofNat t) fm (amB fm t w') w') := e_pop
    have g : ∀ k j, k ≠ 43 → ¬ PRE k j → gi (fX10_pop (fX9_form (Int32.ofNat t) fm (amB fm t w') w')).2 k j = gi (fX9_form (Int32.ofNat t) fm (amB fm t w') w') k j := fun k j _ hk => (hp k j hk).1
    have hfo : OFF (fun k j => 8 ≤ k ∧ k ≤ 10 ∧ j = t) (fX9_form (Int32.ofNat t) fm (amB fm t w') w') w' := by
      intro k j hk
      refine ⟨f2 k j hk, ?_⟩
      rw [form_eq hT' htt (fm := fm) (b := amB fm t w')]
      rfl
    have hO : OFF (PE1 t) (fX9_form (Int32.ofNat t) fm (amB fm t w') w') w := OFF.tr (hfo.mono (fun k j hk => Or.inr (Or.inl ⟨hk.1, hk.2.1, by omega⟩))) hW'.2.2.2.2.1.1.2
    have hin : IN1 kd wr z (fX9_form (Int32.ofNat t) fm (amB fm t w') w') t' base fa' := ⟨f1, (f2 3 5 (by omega)).trans hW'.2.2.2.2.1.1.1, (f2 14 0 (by omega)).trans hW'.2.2.2.2.1.2.1, by rw [f2 43 4 (by omega), hW'.1]; rfl⟩
    have hpe : ∀ k j, k ≠ 43 → gi (fX10_pop (fX9_form (Int32.ofNat t) fm (amB fm t w') w')).2 k j = gi (fX9_form (Int32.ofNat t) fm (amB fm t w') w') k j := fun k j hk => by
      unfold fX10_pop
      exact gi_si1 (by omega)
    refine ⟨_, _, rfl, (LOW.pre hp).tr (fun j hj => ?_), OFF.tr (hp.mono (fun _ _ q => q.p)) hO, hin.off hp PRE.ok, fun k j hk h43 => (hpe k j h43).trans (f2 k j hk), (hpe 8 t (by omega)).trans f3, (hpe 9 t (by omega)).trans f4, (hpe 10 t (by omega)).trans f5⟩
    rw [f2 44 j (by omega), f2 45 j (by omega)]
    exact hL' j hj
  have hlt := xp_lt (kd := kd) k
  show RUN kd wr z (fX2_simple (RX2_typed (G + 2)) (Int32.ofNat d0) w) w t base (smX kd (xp kd k) d0 t) fa _
  by_cases q40 : d0 ≤ 40
  · obtain ⟨s1, s2⟩ := c_simple jx1g hwr hz0 hlt hP h.1 hW q40
    unfold smX
    rcases hx : rd kd (xp kd k) 9 d0 t with p | r
    · obtain ⟨w', fm, ev', a, b, c, e, g⟩ := s1 p hx
      obtain ⟨x, u, u1, u2, u3, u4, u5, u6, u7, u8⟩ := hend w' fm ev' (z - 1) _ b c e (by omega) (fun q => ⟨q, g q, FA_ge hwr _ _⟩)
      exact ⟨x, u, a.trans u1, u2, u3, fun p' hp' => by injection hp' with hp'; rw [← hp']; exact u4, fun e' he => nomatch he⟩
    · obtain ⟨w', fm, a, b, c, e, g⟩ := s2 r hx
      have hrt := rd_lt (kd := kd) hlt _ _ _ _ hx
      obtain ⟨x, u, u1, u2, u3, u4, u5, u6, u7, u8⟩ := hend w' fm r.2 r.1 _ b c e (by omega) (fun q => by omega)
      refine ⟨x, u, a.trans u1, u2, u3, (fun p' hp' => nomatch hp'), fun e' he => ?_⟩
      injection he with he
      subst he
      refine ⟨by omega, u4, fun r' hr' => ?_⟩
      rw [hx] at hr'
      injection hr' with hr'
      subst hr'
      have hu9 : gi u 9 (t + 1) = gi w' 9 (t + 1) := u5 9 (t + 1) (by omega) (by omega)
      refine ⟨u8, u6.trans g, ?_, fun y hy hy0 => ?_⟩
      · rw [u7, u6, hu9]
        unfold amB
        have hb2 : ∀ b : Bool, (b2i b ≠ 0) ↔ b = true := fun b => by cases b <;> decide
        rw [hb2]
        by_cases q1 : fm = 1 ∨ fm = 2
        · rw [if_pos q1]
          exact ⟨fun _ => q1.elim Or.inl (fun q => Or.inr (Or.inl q)), fun _ => rfl⟩
        · rw [if_neg q1]
          by_cases q4 : fm = 4
          · rw [if_pos q4]
            have h9 : fX9_isAim (Int32.ofNat (t + 1)) w' = true ↔ gi w' 9 (t + 1) ≠ 0 := by
              have hrz := b.2.2.2.2.2.2.1
              unfold fX9_isAim
              rw [ltq, rgi_iN (n := t + 1) (m := 8193) (by omega) (by omega)]
              by_cases q9 : gi w' 9 (t + 1) = 0
              · rw [if_pos q9]; exact ⟨fun h => absurd h (by decide), fun h => absurd q9 h⟩
              · rw [if_neg q9]; exact ⟨fun _ => q9, fun _ => rfl⟩
            rw [h9]
            exact ⟨fun h => Or.inr (Or.inr ⟨q4, h⟩), fun h => h.elim (fun h => absurd (Or.inl h) q1) (fun h => h.elim (fun h => absurd (Or.inr h) q1) (fun h => h.2))⟩
          · rw [if_neg q4]
            exact ⟨fun h => absurd h (by decide), fun h => h.elim (fun h => absurd (Or.inl h) q1) (fun h => h.elim (fun h => absurd (Or.inr h) q1) (fun h => absurd h.1 q4))⟩
      · have hpq := rd_pq (kd := kd) hlt _ _ _ _ hx y hy hy0
        obtain ⟨p1, e2, p2, p3⟩ := hpq
        have hF := c.2.2.2.2.1.2.2 y hy hy0 ⟨e2, p2⟩
        by_cases qt : y.2.1 = t
        · -- its own form lies ahead of what's in it
          exact inP_own p2 hF (fun k j a b c' d' => u5 k j (by omega) (by omega))
        · exact inP_k p2 hF (fun k j a b c' d' => u5 k j (by omega) (by omega))
  · have hk0 : kd t = 0 := (hd.resolve_left q40).2
    have htz2 : t = z - 1 := by
      by_cases q : t + 1 < z
      · exact absurd hk0 (hz1 t q)
      · omega
    obtain ⟨f, hf⟩ := FU_ge (k := 2) (by omega)
    have h2 : fX2_simple (RX2_typed (G + 2)) (Int32.ofNat d0) w = oX2_simple_26 (RX2_typed (G + 2)) (f + 2) (Int32.ofNat d0) (Int32.ofNat t) (Int32.ofNat base) 6 true 0 w := by
      unfold fX2_simple
      rw [ltq, ltq, a_at h.1, show fX10_waiting w = Int32.ofNat base from h.2.2.2, hf]
    obtain ⟨w', ev', a, b, c, e⟩ := c_simple_dead (f := f) (a4 := 6) jx1g hz0 hP h.1 hk0 hz1 hW (fun x hx => absurd hx (by simp)) (Nat.le_refl _)
    obtain ⟨x, u, u1, u2, u3, u4, u5, u6, u7, u8⟩ := hend w' 6 ev' (z - 1) _ b c e (by omega) (fun q => ⟨q, rfl, FA_ge hwr _ _⟩)
    have hsm : smX kd (xp kd k) d0 t = .inl t := by
      unfold smX
      rw [rd_0 hz0 9 d0 t hk0]
    rw [hsm]
    exact ⟨x, u, (h2.trans a).trans u1, u2, u3, fun p' hp' => by injection hp' with hp'; rw [← hp']; exact u4, fun e' he => nomatch he⟩
end P1
