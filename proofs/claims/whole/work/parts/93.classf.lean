/-! THE CLASS GOES OVER EXPRS: all of a simple one -/
section CS
variable {kd wr : Nat → Nat} {gb : Bool} {z base d0 : Nat} {pr : Nat → Nat → Sum Nat Nat} {J : List EV → Wd → Prop} {rc : TX2_typed} {fmP : Nat → Nat → Int32}
theorem FA_ge (hwr : ∀ i, wr i ≤ 8192) (fa : Int32) (p : Nat) : 0 ≤ FA wr fa p := by
  unfold FA
  by_cases q : 0 ≤ fa
  · rw [if_pos q]; exact q
  · rw [if_neg q]; exact zl_iN (by have := hwr p; omega)
theorem FA_FA (hwr : ∀ i, wr i ≤ 8192) (fa : Int32) (p q : Nat) : FA wr (FA wr fa p) q = FA wr fa p := by
  show (if 0 ≤ FA wr fa p then FA wr fa p else _) = _
  rw [if_pos (FA_ge hwr fa p)]
/-- a PRIMARY of the class -/
def PRM (kd wr : Nat → Nat) (gb : Bool) (z base d0 st : Nat) (pr : Nat → Nat → Sum Nat Nat) (J : List EV → Wd → Prop) (rc : TX2_typed) (fmP : Nat → Nat → Int32) : Prop := ∀ (S ev : List EV) (w : Wd) (t : Nat) (fa : Int32), CT kd wr gb z w t fa → CW J base d0 S ev w → d0 + notS S ≤ 40 ∨ kd t = 0 → PQ pr 0 t ev → st ≤ t →
  ∃ fm u, (if kd t = 2 then rc 5 (Int32.ofNat (d0 + notS S)) 0 0 w else rc 4 (Int32.ofNat (d0 + notS S)) 0 0 w) = some (fm, u) ∧ (kd t = 0 → fm = 6) ∧ gi u 43 4 = gi w 43 4 ∧ LOW (base + S.length) u w ∧ (∀ p, pr (d0 + notS S) t = .inl p → CT kd wr gb z u (z - 1) (FA wr fa p) ∧ ∃ ev', J ev' u) ∧ ∀ e, pr (d0 + notS S) t = .inr e → CT kd wr gb z u e fa ∧ J (ev ++ [(0, t, d0 + notS S)]) u ∧ fm = fmP (d0 + notS S) t
theorem CW.new {S ev ev' : List EV} {u w : Wd} (h : CW J base d0 S ev w) (hm : gi u 43 4 = gi w 43 4) (hl : LOW (base + S.length) u w) (hj : J ev' u) : CW J base d0 S ev' u :=
  ⟨hm.trans h.1, h.2.1.agr hl, h.2.2.1, h.2.2.2.1, hj, h.2.2.2.2.2.1, h.2.2.2.2.2.2⟩
/-- what an operand comes to -/
theorem c_operand {st : Nat} (hP : PRM kd wr gb z base d0 st pr J rc fmP) {k : Int32 → Int32 → Int32 → Int32 → Bool → Int32 → Wd → Option (Int32 × Wd)} {b : Bool} {a1 a2 a6 : Int32} {S ev : List EV} {w : Wd} {t : Nat} {fa : Int32} (hT : CT kd wr gb z w t fa) (hW : CW J base d0 S ev w) (hd : d0 + notS S ≤ 40 ∨ kd t = 0) (hq : PQ pr 0 t ev) (hst : st ≤ t) :
    ∃ fm u, fX2_simple_72 rc k b a1 a2 (Int32.ofNat base) a6 (Int32.ofNat (d0 + notS S)) w = (bn2 (fX2_between (Int32.ofNat base) u) fun x v => k a1 a2 (Int32.ofNat base) (if b = true then fm else 6) x (a6 + 1) v) ∧ LOW base u w ∧ (kd t = 0 → fm = 6) ∧ (∀ p, pr (d0 + notS S) t = .inl p → CT kd wr gb z u (z - 1) (FA wr fa p) ∧ ∃ ev', CW J base d0 S ev' u) ∧ ∀ e, pr (d0 + notS S) t = .inr e → CT kd wr gb z u e fa ∧ CW J base d0 S (ev ++ [(0, t, d0 + notS S)]) u ∧ fm = fmP (d0 + notS S) t := by
  obtain ⟨fm, u, h1, h6, h2, h3, h4, h5⟩ := hP S ev w t fa hT hW hd hq hst
  have hk50 := hT.2.2.1 t
  refine ⟨fm, u, ?_, h3.le (by omega), h6, fun p hp => ?_, fun e he => ?_⟩
  · unfold fX2_simple_72
    dsimp only [lt]
    rw [a_kind hT]
    have h100 : ∀ fm' u', fX2_simple_100 rc k fm' a1 a2 (Int32.ofNat base) a6 b u' = (bn2 (fX2_between (Int32.ofNat base) u') fun x v => k a1 a2 (Int32.ofNat base) (if b = true then fm' else 6) x (a6 + 1) v) := by
      intro fm' u'
      unfold fX2_simple_100
      cases b
      · rw [if_neg (by decide)]; rfl
      · rw [if_pos rfl]; rfl
    by_cases q : kd t = 2
    · rw [if_pos q] at h1
      rw [if_pos (show Int32.ofNat (kd t) = 2 by rw [q]; rfl), h1, bn2_so, h100]
    · have hc : ¬ (Int32.ofNat (kd t) = 2) := fun e => q ((eq_iN (a := kd t) (b := 2) (by omega) (by omega)).mp e)
      rw [if_neg q] at h1
      rw [if_neg hc, h1, bn2_so, h100]
  · obtain ⟨a, ev', b⟩ := h4 p hp
    exact ⟨a, ev', hW.new h2 h3 b⟩
  · obtain ⟨a, b, c⟩ := h5 e he
    exact ⟨a, hW.new h2 h3 b, c⟩
theorem c_simple_lp {st : Nat} (hJ : JX base J) (hwr : ∀ i, wr i ≤ 8192) (hz0 : ∀ d t, kd t = 0 → pr d t = .inl t) (hlt : ∀ d t e, pr d t = .inr e → t < e) (hP : PRM kd wr gb z base d0 st pr J rc fmP) : ∀ (m n t : Nat) (S ev : List EV) (w : Wd) (fa : Int32) (round f : Nat) (a4 : Int32), z ≤ t + m → CT kd wr gb z w t fa → CW J base d0 S ev w → 9000 ≤ t + n → d0 + notS S ≤ 40 → round ≤ t → st ≤ t → (st = t → S = [] ∧ ev = []) → PQ pr 0 t ev →
    (∀ p, opX kd pr d0 n true S t ev = .inl p → ∃ w' fm ev', oX2_simple_26 rc (f + m + 1) (Int32.ofNat d0) (Int32.ofNat st) (Int32.ofNat base) a4 true (Int32.ofNat round) w = fX2_simple_129 rc (Int32.ofNat st) fm w' ∧ CT kd wr gb z w' (z - 1) (FA wr fa p) ∧ CW J base d0 [] ev' w' ∧ LOW base w' w ∧ (st = z - 1 → fm = 6))
    ∧ ∀ r, opX kd pr d0 n true S t ev = .inr r → ∃ w' fm, oX2_simple_26 rc (f + m + 1) (Int32.ofNat d0) (Int32.ofNat st) (Int32.ofNat base) a4 true (Int32.ofNat round) w = fX2_simple_129 rc (Int32.ofNat st) fm w' ∧ CT kd wr gb z w' r.1 fa ∧ CW J base d0 [] r.2 w' ∧ LOW base w' w ∧ fm = (if r.2 = [(0, st, d0)] then fmP d0 st else 6) := by
  intro m
  induction m with
  | zero =>
    intro n t S ev w fa round f a4 hz hT
    have := hT.2.2.2.2.2.2.1
    omega
  | succ m ih =>
    intro n t S ev w fa round f a4 hzm hT hW hn hd hro hst hst0 hq
    have hz := hT.2.1
    have htz := hT.2.2.2.2.2.2.1
    have hb := hW.b
    have h0 : oX2_simple_26 rc (f + (m + 1) + 1) (Int32.ofNat d0) (Int32.ofNat st) (Int32.ofNat base) a4 true (Int32.ofNat round) w = fX2_simple_26 rc (oX2_simple_26 rc (f + m + 1)) (Int32.ofNat d0) (Int32.ofNat st) (Int32.ofNat base) a4 true (Int32.ofNat round) w := rfl
    have hend : ∀ (fm x : Int32) (v : Wd), oX2_simple_26 rc (f + m + 1) (Int32.ofNat d0) (Int32.ofNat st) (Int32.ofNat base) fm false x v = fX2_simple_129 rc (Int32.ofNat st) fm v := by
      intro fm x v
      show fX2_simple_26 rc _ _ _ _ fm false x v = _
      unfold fX2_simple_26
      exact if_neg (by decide)
    rw [h0]
    unfold fX2_simple_26
    have hcr : ¬ ((8193 : Int32) ≤ Int32.ofNat round) := nle_iN (a := 8193) (by omega) (by omega)
    rw [if_pos rfl, if_neg hcr, c_nots hW.1 hW.2.1 hW.2.2.1 (by omega), bn2_so, add_iN]
    unfold fX2_before
    obtain ⟨f9, hf9⟩ := FU_ge (k := 42) (by omega)
    rw [hf9]
    -- what is dead goes to its end
    have hdead : ∀ (S' ev' : List EV) (u : Wd) (fm : Int32) (fa' : Int32), CT kd wr gb z u (z - 1) fa' → CW J base d0 S' ev' u → ∃ w' ev'', (bn2 (fX2_between (Int32.ofNat base) u) fun x v => oX2_simple_26 rc (f + m + 1) (Int32.ofNat d0) (Int32.ofNat st) (Int32.ofNat base) fm x (Int32.ofNat round + 1) v) = fX2_simple_129 rc (Int32.ofNat st) fm w' ∧ CT kd wr gb z w' (z - 1) fa' ∧ CW J base d0 [] ev'' w' ∧ LOW base w' u := by
      intro S' ev' u fm fa' hT' hW'
      rcases c_between (pr := pr) (n := 9001) hJ hT' hW' (by omega) with ⟨_, v, e1, e2, e3, e4⟩ | ⟨hk, _⟩
      · rw [e1, bn2_so, hend]
        exact ⟨v, _, rfl, e2, e3, e4⟩
      · exact absurd (hT.2.2.2.1 (z - 1) (by omega)) hk
    rcases c_before (pr := pr) hJ 42 n t 0 f9 S ev w hT hW hn hd (by omega) (by omega) with ⟨p, S', u, c1, c2, c3, c4, c5⟩ | ⟨n', S', t', u, c1, c2, c3, c4, c5, c6, c7, c8, c9, c10, c11⟩
    · have c2' : oX2_before_5 (f9 + 42) (Int32.ofNat base) (Int32.ofNat (d0 + notS S)) 0 w = some (Int32.ofNat (d0 + notS S'), u) := c2
      rw [c2', bn2_so, c1]
      dsimp only [lt]
      refine ⟨fun p' hp => ?_, (fun r h => nomatch h)⟩
      injection hp with hp
      subst hp
      have hk0 : kd (z - 1) = 0 := hT.2.2.2.1 (z - 1) (by omega)
      have hgo : ∀ b : Bool, ∃ w' fm ev', fX2_simple_72 rc (oX2_simple_26 rc (f + m + 1)) b (Int32.ofNat d0) (Int32.ofNat st) (Int32.ofNat base) (Int32.ofNat round) (Int32.ofNat (d0 + notS S')) u = fX2_simple_129 rc (Int32.ofNat st) fm w' ∧ CT kd wr gb z w' (z - 1) (FA wr fa p) ∧ CW J base d0 [] ev' w' ∧ LOW base w' w ∧ (st = z - 1 → fm = 6) := by
        intro b
        obtain ⟨fm, u2, g1, g2, g9, g3, g4⟩ := c_operand (b := b) (k := oX2_simple_26 rc (f + m + 1)) (a1 := Int32.ofNat d0) (a2 := Int32.ofNat st) (a6 := Int32.ofNat round) hP c3 c4 (Or.inr hk0) (hq.wk (Nat.le_refl _) (by omega)) (by omega)
        obtain ⟨g5, ev2, g6⟩ := g3 _ (hz0 _ _ hk0)
        rw [FA_FA hwr] at g5
        obtain ⟨w', ev'', i1, i2, i3, i4⟩ := hdead S' ev2 u2 (if b = true then fm else 6) _ g5 g6
        exact ⟨w', _, ev'', g1.trans i1, i2, i3, i4.tr (g2.tr (LOW.psg c5)), fun _ => by rw [g9 hk0, ite_self]⟩
      split
      · exact hgo true
      · exact hgo false
    · have c7' : oX2_before_5 (f9 + 42) (Int32.ofNat base) (Int32.ofNat (d0 + notS S)) 0 w = some (Int32.ofNat (d0 + notS S'), u) := c7
      rw [c7', bn2_so, c1]
      dsimp only [lt]
      rw [a_at c8]
      have ht'z := c8.2.2.2.2.2.2.1
      obtain ⟨n2, rfl⟩ : ∃ n2, n' = n2 + 1 := ⟨n' - 1, by omega⟩
      rw [opX_operand c4 c5]
      have hgo : ∀ b : Bool, (b = true ↔ t' = st) →
          (∀ p, (match pr (d0 + notS S') t' with | .inl p => .inl p | .inr e => opX kd pr d0 n2 false S' e (ev ++ [(0, t', d0 + notS S')])) = Sum.inl p → ∃ w' fm ev', fX2_simple_72 rc (oX2_simple_26 rc (f + m + 1)) b (Int32.ofNat d0) (Int32.ofNat st) (Int32.ofNat base) (Int32.ofNat round) (Int32.ofNat (d0 + notS S')) u = fX2_simple_129 rc (Int32.ofNat st) fm w' ∧ CT kd wr gb z w' (z - 1) (FA wr fa p) ∧ CW J base d0 [] ev' w' ∧ LOW base w' w ∧ (st = z - 1 → fm = 6))
          ∧ ∀ r, (match pr (d0 + notS S') t' with | .inl p => .inl p | .inr e => opX kd pr d0 n2 false S' e (ev ++ [(0, t', d0 + notS S')])) = Sum.inr r → ∃ w' fm, fX2_simple_72 rc (oX2_simple_26 rc (f + m + 1)) b (Int32.ofNat d0) (Int32.ofNat st) (Int32.ofNat base) (Int32.ofNat round) (Int32.ofNat (d0 + notS S')) u = fX2_simple_129 rc (Int32.ofNat st) fm w' ∧ CT kd wr gb z w' r.1 fa ∧ CW J base d0 [] r.2 w' ∧ LOW base w' w ∧ fm = (if r.2 = [(0, st, d0)] then fmP d0 st else 6) := by
        intro b hbt
        obtain ⟨fm, u2, g1, g2, g9, g3, g4⟩ := c_operand (b := b) (k := oX2_simple_26 rc (f + m + 1)) (a1 := Int32.ofNat d0) (a2 := Int32.ofNat st) (a6 := Int32.ofNat round) hP c8 c9 (Or.inl c6) (hq.wk (Nat.le_refl _) c3) (by omega)
        rw [g1]
        have hL2 : LOW base u2 w := g2.tr (LOW.psg c10)
        rcases hx : pr (d0 + notS S') t' with p | e
        · refine ⟨fun p' hp => ?_, (fun r h => nomatch h)⟩
          injection hp with hp
          subst hp
          obtain ⟨g5, ev2, g6⟩ := g3 _ hx
          obtain ⟨w', ev'', i1, i2, i3, i4⟩ := hdead S' ev2 u2 (if b = true then fm else 6) _ g5 g6
          exact ⟨w', _, ev'', i1, i2, i3, i4.tr hL2, fun h => by rw [g9 (hT.2.2.2.1 t' (by omega)), ite_self]⟩
        · obtain ⟨g5, g6, g7⟩ := g4 e hx
          have hte := hlt _ _ _ hx
          dsimp only
          rcases c_between (pr := pr) (n := n2) hJ g5 g6 (by omega) with ⟨e0, v, e1, e2, e3, e4⟩ | ⟨hk, n3, S3, ev3, v, e0, e1, e2, e3, e4, e5, e6, e8, e7⟩
          · rw [e0, e1, bn2_so, hend]
            refine ⟨(fun p h => nomatch h), fun r hr => ?_⟩
            injection hr with hr
            subst hr
            refine ⟨v, _, rfl, e2, e3, e4.tr hL2, ?_⟩
            by_cases hb1 : b = true
            · have ht1 := hbt.mp hb1
              have ht2 : st = t := by omega
              obtain ⟨s1, s2⟩ := hst0 ht2
              have s3 : S' = S := c11 (by omega)
              rw [if_pos hb1, s3, s1, s2, ht1]
              have hl : (([] : List EV) ++ [(0, st, d0 + notS [])] ++ []) = [(0, st, d0)] := rfl
              rw [hl, if_pos rfl, g7, s3, s1, ht1]
              rfl
            · rw [if_neg hb1, if_neg]
              intro hl
              have hm' : ((0, t', d0 + notS S') : EV) ∈ ev ++ [(0, t', d0 + notS S')] ++ S' := by simp
              have hl' : ev ++ [(0, t', d0 + notS S')] ++ S' = [(0, st, d0)] := hl
              rw [hl'] at hm'
              have h9 := List.mem_singleton.mp hm'
              injection h9 with _ h9
              injection h9 with h9 _
              exact hb1 (hbt.mpr h9)
          · have hq3 : PQ pr 0 (e + 1) ev3 := fun x hx' h0 => by
              rcases List.mem_append.mp (e8 x hx') with h | h
              · rcases List.mem_append.mp h with h | h
                · obtain ⟨q1, e', q2, q3⟩ := hq x h h0
                  exact ⟨q1, e', q2, by omega⟩
                · rw [List.mem_singleton.mp h]
                  exact ⟨Nat.zero_le _, e, hx, by omega⟩
              · rcases (g6.2.2.1 x h).2.2.2 with ⟨q, _⟩ | ⟨q, _⟩ <;> omega
            rw [e0, e2, bn2_so, ad1_iN]
            obtain ⟨i1, i2⟩ := ih n3 (e + 1) S3 ev3 v fa (round + 1) f (if b = true then fm else 6) (by omega) e3 e4 e1 (by omega) (by omega) (by omega) (fun h => by omega) hq3
            refine ⟨fun p hp => ?_, fun r hr => ?_⟩
            · obtain ⟨w', fm', ev', j1, j2, j3, j4, j5⟩ := i1 p hp
              exact ⟨w', fm', ev', j1, j2, j3, j4.tr (e7.tr hL2), j5⟩
            · obtain ⟨w', fm', j1, j2, j3, j4, j5⟩ := i2 r hr
              exact ⟨w', fm', j1, j2, j3, j4.tr (e7.tr hL2), j5⟩
      by_cases qt : t' = st
      · rw [if_pos (show Int32.ofNat t' = Int32.ofNat st by rw [qt])]
        exact hgo true ⟨fun _ => qt, fun _ => rfl⟩
      · have hct : ¬ (Int32.ofNat t' = Int32.ofNat st) := fun e => qt ((eq_iN (by omega) (by omega)).mp e)
        rw [if_neg hct]
        exact hgo false ⟨fun h => absurd h (by decide), fun h => absurd h qt⟩
end CS
