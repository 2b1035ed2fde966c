/-! PASS 2, THE CLASS: simple EXPRS that end -/
section CS
variable {kd wr : Nat → Nat} {z base d0 : Nat} {pr : Nat → Nat → Sum Nat Nat} {J : List EV → Wd → Prop} {rc : TX2_typed} {fmP : Nat → Nat → Int32}
/-- a PRIMARY of those in evs -/
def PR2 (kd wr : Nat → Nat) (z base d0 st : Nat) (pr : Nat → Nat → Sum Nat Nat) (J : List EV → Wd → Prop) (rc : TX2_typed) (fmP : Nat → Nat → Int32) (evs : List EV) : Prop := ∀ (S ev q : List EV) (w : Wd) (t e : Nat), CT kd wr false z w t (-1) → CW J base d0 S ev w → d0 + notS S ≤ 40 → st ≤ t → pr (d0 + notS S) t = .inr e → evs = ev ++ [(0, t, d0 + notS S)] ++ q →
  ∃ fm u, (if kd t = 2 then rc 5 (Int32.ofNat (d0 + notS S)) 0 0 w else rc 4 (Int32.ofNat (d0 + notS S)) 0 0 w) = some (fm, u) ∧ gi u 43 4 = gi w 43 4 ∧ LOW (base + S.length) u w ∧ CT kd wr false z u e (-1) ∧ J (ev ++ [(0, t, d0 + notS S)]) u ∧ fm = fmP (d0 + notS S) t
theorem c_operand2 {st : Nat} {evs q : List EV} (hP : PR2 kd wr z base d0 st pr J rc fmP evs) {k : Int32 → Int32 → Int32 → Int32 → Bool → Int32 → Wd → Option (Int32 × Wd)} {b : Bool} {a1 a2 a6 : Int32} {S ev : List EV} {w : Wd} {t e : Nat} (hT : CT kd wr false z w t (-1)) (hW : CW J base d0 S ev w) (hd : d0 + notS S ≤ 40) (hst : st ≤ t) (he : pr (d0 + notS S) t = .inr e) (hev : evs = ev ++ [(0, t, d0 + notS S)] ++ q) :
    ∃ fm u, fX2_simple_72 rc k b a1 a2 (Int32.ofNat base) a6 (Int32.ofNat (d0 + notS S)) w = (bn2 (fX2_between (Int32.ofNat base) u) fun x v => k a1 a2 (Int32.ofNat base) (if b = true then fm else 6) x (a6 + 1) v) ∧ LOW base u w ∧ CT kd wr false z u e (-1) ∧ CW J base d0 S (ev ++ [(0, t, d0 + notS S)]) u ∧ fm = fmP (d0 + notS S) t := by
  obtain ⟨fm, u, h1, h2, h3, h4, h5, h6⟩ := hP S ev q w t e hT hW hd hst he hev
  have hk50 := hT.2.2.1 t
  refine ⟨fm, u, ?_, h3.le (by omega), h4, hW.new h2 h3 h5, h6⟩
  unfold fX2_simple_72
  dsimp only [lt]
  rw [a_kind hT]
  have h100 : ∀ fm' u', fX2_simple_100 rc k fm' a1 a2 (Int32.ofNat base) a6 b u' = (bn2 (fX2_between (Int32.ofNat base) u') fun x v => k a1 a2 (Int32.ofNat base) (if b = true then fm' else 6) x (a6 + 1) v) := by
    intro fm' u'
    unfold fX2_simple_100
    cases b
    · rw [if_neg (by decide)]; rfl
    · rw [if_pos rfl]; rfl
  by_cases q : kd t = 2
  · rw [if_pos q] at h1
    rw [if_pos (show Int32.ofNat (kd t) = 2 by rw [q]; rfl), h1, bn2_so, h100]
  · have hc : ¬ (Int32.ofNat (kd t) = 2) := fun e => q ((eq_iN (a := kd t) (b := 2) (by omega) (by omega)).mp e)
    rw [if_neg q] at h1
    rw [if_neg hc, h1, bn2_so, h100]
theorem c_simple_lp2 {st : Nat} (hJ : JX base J) (hlt : ∀ d t e, pr d t = .inr e → t < e) {evs : List EV} (hP : PR2 kd wr z base d0 st pr J rc fmP evs) : ∀ (m n t : Nat) (S ev : List EV) (w : Wd) (round f : Nat) (a4 : Int32), z ≤ t + m → CT kd wr false z w t (-1) → CW J base d0 S ev w → 9000 ≤ t + n → d0 + notS S ≤ 40 → round ≤ t → st ≤ t → (st = t → S = [] ∧ ev = []) →
    ∀ r, opX kd pr d0 n true S t ev = .inr r → r.2 = evs → ∃ w' fm, oX2_simple_26 rc (f + m + 1) (Int32.ofNat d0) (Int32.ofNat st) (Int32.ofNat base) a4 true (Int32.ofNat round) w = fX2_simple_129 rc (Int32.ofNat st) fm w' ∧ CT kd wr false z w' r.1 (-1) ∧ CW J base d0 [] r.2 w' ∧ LOW base w' w ∧ fm = (if r.2 = [(0, st, d0)] then fmP d0 st else 6) := by
  intro m
  induction m with
  | zero =>
    intro n t S ev w round f a4 hz hT
    have := hT.2.2.2.2.2.2.1
    omega
  | succ m ih =>
    intro n t S ev w round f a4 hzm hT hW hn hd hro hst hst0 r hr hre
    have hz := hT.2.1
    have htz := hT.2.2.2.2.2.2.1
    have hb := hW.b
    have h0 : oX2_simple_26 rc (f + (m + 1) + 1) (Int32.ofNat d0) (Int32.ofNat st) (Int32.ofNat base) a4 true (Int32.ofNat round) w = fX2_simple_26 rc (oX2_simple_26 rc (f + m + 1)) (Int32.ofNat d0) (Int32.ofNat st) (Int32.ofNat base) a4 true (Int32.ofNat round) w := rfl
    have hend : ∀ (fm x : Int32) (v : Wd), oX2_simple_26 rc (f + m + 1) (Int32.ofNat d0) (Int32.ofNat st) (Int32.ofNat base) fm false x v = fX2_simple_129 rc (Int32.ofNat st) fm v := by
      intro fm x v
      show fX2_simple_26 rc _ _ _ _ fm false x v = _
      unfold fX2_simple_26
      exact if_neg (by decide)
    rw [h0]
    unfold fX2_simple_26
    have hcr : ¬ ((8193 : Int32) ≤ Int32.ofNat round) := nle_iN (a := 8193) (by omega) (by omega)
    rw [if_pos rfl, if_neg hcr, c_nots hW.1 hW.2.1 hW.2.2.1 (by omega), bn2_so, add_iN]
    unfold fX2_before
    obtain ⟨f9, hf9⟩ := FU_ge (k := 42) (by omega)
    rw [hf9]
    rcases c_before (pr := pr) hJ 42 n t 0 f9 S ev w hT hW hn hd (by omega) (by omega) with ⟨p, S', u, c1, c2, c3, c4, c5⟩ | ⟨n', S', t', u, c1, c2, c3, c4, c5, c6, c7, c8, c9, c10, c11⟩
    · rw [c1] at hr
      exact nomatch hr
    · have c7' : oX2_before_5 (f9 + 42) (Int32.ofNat base) (Int32.ofNat (d0 + notS S)) 0 w = some (Int32.ofNat (d0 + notS S'), u) := c7
      rw [c7', bn2_so]
      rw [c1] at hr
      dsimp only [lt]
      rw [a_at c8]
      have ht'z := c8.2.2.2.2.2.2.1
      obtain ⟨n2, rfl⟩ : ∃ n2, n' = n2 + 1 := ⟨n' - 1, by omega⟩
      rw [opX_operand c4 c5] at hr
      rcases hx : pr (d0 + notS S') t' with p | e
      · rw [hx] at hr
        exact nomatch hr
      rw [hx] at hr
      have hr' : opX kd pr d0 n2 false S' e (ev ++ [(0, t', d0 + notS S')]) = .inr r := hr
      obtain ⟨q9, hq9⟩ := opX_pre _ _ _ _ _ _ hr'
      have hev9 : evs = ev ++ [(0, t', d0 + notS S')] ++ q9 := hre.symm.trans hq9
      have hgo : ∀ b : Bool, (b = true ↔ t' = st) → ∃ w' fm, fX2_simple_72 rc (oX2_simple_26 rc (f + m + 1)) b (Int32.ofNat d0) (Int32.ofNat st) (Int32.ofNat base) (Int32.ofNat round) (Int32.ofNat (d0 + notS S')) u = fX2_simple_129 rc (Int32.ofNat st) fm w' ∧ CT kd wr false z w' r.1 (-1) ∧ CW J base d0 [] r.2 w' ∧ LOW base w' w ∧ fm = (if r.2 = [(0, st, d0)] then fmP d0 st else 6) := by
        intro b hbt
        obtain ⟨fm, u2, g1, g2, g5, g6, g7⟩ := c_operand2 (b := b) (k := oX2_simple_26 rc (f + m + 1)) (a1 := Int32.ofNat d0) (a2 := Int32.ofNat st) (a6 := Int32.ofNat round) hP c8 c9 c6 (by omega) hx hev9
        rw [g1]
        have hL2 : LOW base u2 w := g2.tr (LOW.psg c10)
        have hte := hlt _ _ _ hx
        rcases c_between (pr := pr) (n := n2) hJ g5 g6 (by omega) with ⟨e0, v, e1, e2, e3, e4⟩ | ⟨hk, n3, S3, ev3, v, e0, e1, e2, e3, e4, e5, e6, e8, e7⟩
        · rw [e0] at hr'
          injection hr' with hr'
          subst hr'
          rw [e1, bn2_so, hend]
          refine ⟨v, _, rfl, e2, e3, e4.tr hL2, ?_⟩
          by_cases hb1 : b = true
          · have ht1 := hbt.mp hb1
            have ht2 : st = t := by omega
            obtain ⟨s1, s2⟩ := hst0 ht2
            have s3 : S' = S := c11 (by omega)
            rw [if_pos hb1, s3, s1, s2, ht1]
            have hl : (([] : List EV) ++ [(0, st, d0 + notS [])] ++ []) = [(0, st, d0)] := rfl
            rw [hl, if_pos rfl, g7, s3, s1, ht1]
            rfl
          · rw [if_neg hb1, if_neg]
            intro hl
            have hm' : ((0, t', d0 + notS S') : EV) ∈ ev ++ [(0, t', d0 + notS S')] ++ S' := by simp
            have hl' : ev ++ [(0, t', d0 + notS S')] ++ S' = [(0, st, d0)] := hl
            rw [hl'] at hm'
            have h9 := List.mem_singleton.mp hm'
            injection h9 with _ h9
            injection h9 with h9 _
            exact hb1 (hbt.mpr h9)
        · rw [e0] at hr'
          rw [e2, bn2_so, ad1_iN]
          obtain ⟨w', fm', j1, j2, j3, j4, j5⟩ := ih n3 (e + 1) S3 ev3 v (round + 1) f (if b = true then fm else 6) (by omega) e3 e4 e1 (by omega) (by omega) (by omega) (fun h => by omega) r hr' hre
          exact ⟨w', fm', j1, j2, j3, j4.tr (e7.tr hL2), j5⟩
      by_cases qt : t' = st
      · rw [if_pos (show Int32.ofNat t' = Int32.ofNat st by rw [qt])]
        exact hgo true ⟨fun _ => qt, fun _ => rfl⟩
      · have hct : ¬ (Int32.ofNat t' = Int32.ofNat st) := fun e => qt ((eq_iN (by omega) (by omega)).mp e)
        rw [if_neg hct]
        exact hgo false ⟨fun h => absurd h (by decide), fun h => absurd h qt⟩
theorem c_simple2 (hJ : JX base J) (hlt : ∀ d t e, pr d t = .inr e → t < e) {t : Nat} {evs : List EV} {e : Nat} (hr : rd kd pr 9 d0 t = .inr (e, evs)) (hz0 : ∀ d t, kd t = 0 → pr d t = .inl t) (hP : PR2 kd wr z base d0 t pr J rc fmP evs) {w : Wd} (hT : CT kd wr false z w t (-1)) (hW : CW J base d0 [] [] w) (hd : d0 ≤ 40) :
    ∃ w' fm, fX2_simple rc (Int32.ofNat d0) w = fX2_simple_129 rc (Int32.ofNat t) fm w' ∧ CT kd wr false z w' e (-1) ∧ CW J base d0 [] evs w' ∧ LOW base w' w ∧ fm = (if evs = [(0, t, d0)] then fmP d0 t else 6) := by
  have hz := hT.2.1
  have htz := hT.2.2.2.2.2.2.1
  have hk : ∀ t, 9000 ≤ t → kd t = 0 := fun t ht => hT.2.2.2.1 t (by omega)
  have h1 : opX kd pr d0 9000 true [] t [] = rd kd pr 9 d0 t := lv_one hk hlt (fun d t ht => hz0 d t (hk t ht)) hd (by omega)
  obtain ⟨f, hf⟩ := FU_ge (k := 9001) (by omega)
  have h2 : fX2_simple rc (Int32.ofNat d0) w = oX2_simple_26 rc (f + 9000 + 1) (Int32.ofNat d0) (Int32.ofNat t) (Int32.ofNat base) 6 true (Int32.ofNat 0) w := by
    unfold fX2_simple
    rw [ltq, ltq, a_at hT, show fX10_waiting w = Int32.ofNat base from hW.1, hf]
    rfl
  rw [h2]
  exact c_simple_lp2 hJ hlt hP 9000 9000 t [] [] w 0 f 6 (by omega) hT hW (by omega) hd (by omega) (Nat.le_refl _) (fun _ => ⟨rfl, rfl⟩) (e, evs) (h1.trans hr) rfl
end CS
