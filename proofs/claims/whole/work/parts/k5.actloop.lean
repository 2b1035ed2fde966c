/-! BOTH MACHINES: ACTUALS in a row -/
section KF5
variable {E : SENV} {K : CXT} {Lim p nx a a1 b b1 b2 h sp sc el S k nf ff ac y th a0 q c c9 s : Nat} {x x1 : Int} {wA wM uA uM zA zM : Wd} {A B N : ACT} {F : Nat → Int64} {stk : List Nat} {ty : Int32}
/-- a row by numbers -/
theorem rwM.fn {W : Nat → Nat → Nat → Nat → Prop} : ∀ (xs : List Nat) (i a a9 : Nat), rwM W xs i a a9 → ∃ g : Nat → Nat, g i = a ∧ g (i + xs.length) = a9 ∧ ∀ q x, xs[q]? = some x → W x (i + q) (g (i + q)) (g (i + q + 1)) := by
  intro xs
  induction xs with
  | nil =>
    intro i a a9 h
    have h : a9 = a := h
    subst h
    exact ⟨fun _ => a9, rfl, rfl, fun q x hx => absurd hx (by simp)⟩
  | cons x r ih =>
    intro i a a9 ⟨a1, h1, h2⟩
    obtain ⟨g, g1, g2, g3⟩ := ih (i + 1) a1 a9 h2
    have e : ∀ j, j ≠ i → (if j = i then a else g j) = g j := fun j hj => if_neg hj
    refine ⟨fun j => if j = i then a else g j, if_pos rfl, ?_, fun q y hy => ?_⟩
    · dsimp only
      rw [e _ (by rw [List.length_cons]; omega), List.length_cons, show i + (r.length + 1) = i + 1 + r.length by omega]
      exact g2
    · dsimp only
      cases q with
      | zero =>
        rw [Nat.add_zero, if_pos rfl, e _ (by omega), g1]
        have : x = y := by simpa using hy
        rw [← this]; exact h1
      | succ q =>
        have := g3 q y (by simpa using hy)
        rw [e _ (by omega), e _ (by omega), show i + (q + 1) = i + 1 + q by omega, show i + 1 + q + 1 = i + 1 + q + 1 from rfl]
        exact this
/-- what the reference's slots hold at the call -/
def PRZY (E : SENV) (K : CXT) (f ac a a1 : Nat) (m1 m2 : Int64) : Prop := (¬ (gi (vM E) 24 f = 1 ∧ gi (vM E) 28 f ≠ 0) → ∃ v1 v2, FVL E K.1 K.2.1 f v1 v2 m1 m2 ∧ CWD E K f a a1 v1 v2) ∧ (gi (vM E) 24 f = 1 → gi (vM E) 28 f ≠ 0 → m1 = (gi (dM E) 53 ac).toInt64 ∧ m2 = Int64.ofNat (K.2.2 0))
theorem ANO.pre (hE : EOKS E) (hS : SYS E) (hW : SAD E) (hC : SCA E) {i n f j b0 bb bb1 : Nat} (H : JS E K el a0 b0 j sp sc x i wA wM) (hA : K.1[K.2.2 0]? = some A) (hon : aOn A) (hst : ∀ s ∈ stk, s ∈ aK A) (hp : aP A = p) (h : ANO E stk p k n f ac a a1 bb bb1) : ∃ m1 m2, PRZY E K f ac a a1 m1 m2 ∧ RFM E K wM ac f m1 m2 := by
  by_cases hv : gi (vM E) 24 f = 1 ∧ gi (vM E) 28 f ≠ 0
  · have hm := h.2.2.1
    rw [cdm5_1 hv.1] at hm
    obtain ⟨d1, d2, th, g1, t1, t2, _⟩ := hm
    refine ⟨_, _, ⟨fun q => absurd hv q, fun _ _ => ⟨?_, rfl⟩⟩, RFM.thk (Or.inl d1) t2 t1⟩
    rw [t2, i64_iN (by omega)]
  · obtain ⟨_, v1, v2, m1, m2, r1, r2, r3⟩ := h.ok hE hS hW hC H hA hon hst hp (fun q => by
      by_cases z : gi (vM E) 28 f = 0
      · exact z
      · exact absurd ⟨q, z⟩ hv)
    exact ⟨m1, m2, ⟨fun _ => ⟨v1, v2, r1, r3⟩, fun q1 q2 => absurd ⟨q1, q2⟩ hv⟩, r2⟩
/-- all formals are told -/
theorem FMS.mk {P : Nat → Int64 → Int64 → Prop} (hs : ∀ q, q < nf → gi (dM E) 26 (ff + q) = Int32.ofNat (1 + 2 * q)) (hf : ∀ q, q < nf → ∃ m1 m2, P q m1 m2 ∧ RFM E K wM (a0 + q) (ff + q) m1 m2) (hmt : K.2.2 2 + 1 + 2 * nf < 199999) : ∀ (n i : Nat) (y : Wd), i + n = nf → (∀ j, j < K.1.length → gi y 88 j = gi wM 88 j ∧ gi y 87 j = gi wM 87 j) → (∀ q, q < K.2.2 2 → gl y 83 q = gl wM 83 q) →
    ∃ v, FMS (dM E) (K.2.2 0) a0 ff (K.2.2 2) i n y v ∧ OFF (fun k j => k = 83 ∧ K.2.2 2 + 1 + 2 * i ≤ j ∧ j < K.2.2 2 + 1 + 2 * nf) v y ∧ ∀ q, i ≤ q → q < nf → ∃ m1 m2, P q m1 m2 ∧ gl v 83 (K.2.2 2 + (1 + 2 * q)) = m1 ∧ (gi (vM E) 24 (ff + q) ≠ 2 → gl v 83 (K.2.2 2 + (1 + 2 * q) + 1) = m2) := by
  intro n
  induction n with
  | zero =>
    intro i y hi _ _
    exact ⟨y, rfl, OFF.rf, fun q q1 q2 => by omega⟩
  | succ n ih =>
    intro i y hi e1 e2
    obtain ⟨m1, m2, p1, p2⟩ := hf i (by omega)
    obtain ⟨v, f1, f2, f3⟩ := p2 y (K.2.2 2 + (1 + 2 * i)) e1 e2 (by omega) (by omega)
    have O := f1.off
    obtain ⟨u, g1, g2, g3⟩ := ih (i + 1) v (by omega) (fun j hj => ⟨(O 88 j (by omega)).1.trans (e1 j hj).1, (O 87 j (by omega)).1.trans (e1 j hj).2⟩) (fun r hr => (O 83 r (by omega)).2.trans (e2 r hr))
    refine ⟨u, ⟨1 + 2 * i, v, hs i (by omega), by omega, f1, g1⟩, OFF.tr (g2.mono fun k j p => by omega) (O.mono fun k j p => by omega), fun q q1 q2 => ?_⟩
    by_cases e : q = i
    · subst e
      refine ⟨m1, m2, p1, (g2 83 _ (by omega)).2.trans f2, fun z => (g2 83 _ (by omega)).2.trans (f3 z)⟩
    · exact g3 q (by omega) q2
theorem wsum_le : ∀ (q : Nat), wsum E ff q ≤ 2 * q := by
  intro q
  induction q with
  | zero => exact Nat.le_refl _
  | succ q ih =>
    have : wdF E (ff + q) ≤ 2 := by
      unfold wdF
      by_cases z : gi (vM E) 24 (ff + q) = 2 ∨ (gi (vM E) 24 (ff + q) = 1 ∧ gi (vM E) 28 (ff + q) ≠ 0)
      · rw [if_pos z]; omega
      · rw [if_neg z]; omega
    show wsum E ff q + wdF E (ff + q) ≤ 2 * (q + 1)
    omega
/-- a formal's words on both sides -/
def FWD (E : SENV) (K : CXT) (ff h q : Nat) (wA wM : Wd) : Prop := ∃ v1 v2 m1 m2, FVL E K.1 K.2.1 (ff + q) v1 v2 m1 m2 ∧ gl wA 51 (h + wsum E ff q) = v1 ∧ (wdF E (ff + q) = 2 → gl wA 51 (h + wsum E ff q + 1) = v2) ∧ gl wM 83 (K.2.2 2 + (1 + 2 * q)) = m1 ∧ (gi (vM E) 24 (ff + q) ≠ 2 → gl wM 83 (K.2.2 2 + (1 + 2 * q) + 1) = m2)
theorem ACT.loop (hE : EOKS E) (hS : SYS E) (hX : ALLX E Lim) (hU : USD E Lim) (hP : PNO E K S N) (hA : K.1[K.2.2 0]? = some A) (hon : aOn A) (hst : ∀ s ∈ stk, s ∈ aK A) (hp : aP A = p) (hH : HND E K Lim) {g gm : Nat → Nat} {xs : List Nat} (hx : ∀ q z, xs[q]? = some z → ANO E stk p k z (ff + q) (a0 + q) (g q) (g (q + 1)) (gm q) (gm (q + 1))) (hl : xs.length = nf) (hn8 : nf ≤ 8) (hsM : ∀ q, q < nf → sM E (ff + q) = 1 + 2 * q) (h24 : ∀ q, q < nf → gi (vM E) 28 (ff + q) ≠ 0 → gi (vM E) 24 (ff + q) = 1) (hS2 : 1 + 2 * nf ≤ S) (hc9 : c9 ≤ 60000) (hroom : h + 2 ≤ 502 * (K.2.2 3 + 1)) (hmono : ∀ q, q < nf → g q ≤ g (q + 1)) (hsp : sp ≤ h) :
    ∀ (n i c sc : Nat) (x : Int) (t : Nat) (wA wM : Wd), i + n = nf → VFC E ff i n c c9 → PEND E K S N (g i) c (h + wsum E ff i) sp sc x t wA wM → eNo E 5 5 ≤ Lim + sc → (∀ (j : Nat) (B : ACT), K.1[j]? = some B → x + (g nf - g i) + 3 * n ≤ aX B) → x + (g nf - g i) + 3 * n ≤ KK → (∀ q, q < i → FWD E K ff h q wA wM) → (∀ q, i ≤ q → q < nf → ∃ m1 m2, PRZY E K (ff + q) (a0 + q) (g q) (g (q + 1)) m1 m2 ∧ gl wM 83 (K.2.2 2 + (1 + 2 * q)) = m1 ∧ (gi (vM E) 24 (ff + q) ≠ 2 → gl wM 83 (K.2.2 2 + (1 + 2 * q) + 1) = m2)) →
      (∀ uA uM sc' t', PEND E K S N (g nf) c9 (h + wsum E ff nf) sp sc' (x + (g nf - g i) + 3 * n) t' uA uM → sc ≤ sc' → (∀ q, q < nf → FWD E K ff h q uA uM) → KEE h (K.2.2 3 + 1) sp (K.2.2 4 + 1) wA wM uA uM → (∀ r, K.2.2 2 ≤ r → r < K.2.2 2 + S → (∀ q, i ≤ q → q < nf → r ≠ K.2.2 2 + (1 + 2 * q)) → gl uM 83 r = gl wM 83 r) → GD E t' uA uM) → GD E t wA wM := by
  have hEN := hE.1
  have gle : ∀ (d i : Nat), i + d ≤ nf → g i ≤ g (i + d) := by
    intro d
    induction d with
    | zero => intro i _; exact Nat.le_refl _
    | succ d ih => intro i hi; have := ih i (by omega); have := hmono (i + d) (by omega); rw [show i + (d + 1) = i + d + 1 by omega]; omega
  intro n
  induction n with
  | zero =>
    intro i c sc x t wA wM hi hv H hL hxa hxk hD hT G
    have hv : c9 = c := hv
    have hi : i = nf := by omega
    subst hv
    subst hi
    have e : x + ((g i : Int) - g i) + 3 * ((0 : Nat) : Int) = x := by omega
    rw [e] at G
    exact G wA wM sc t H (Nat.le_refl _) hD KEE.rf (fun _ _ _ _ => rfl)
  | succ n ih =>
    intro i c sc x t wA wM hi hv H hL hxa hxk hD hT G
    have hin : i < nf := by omega
    obtain ⟨m1, m2, hpre, hm1, hm2⟩ := hT i (Nat.le_refl _) hin
    obtain ⟨z, hz⟩ : ∃ z, xs[i]? = some z := ⟨xs[i]'(by omega), List.getElem?_eq_getElem (by omega)⟩
    have hN := hx i z hz
    have hw2 := wsum_le (E := E) (ff := ff) i
    have g1 := hmono i hin
    have g2 := gle (nf - (i + 1)) (i + 1) (by omega)
    rw [show i + 1 + (nf - (i + 1)) = nf by omega] at g2
    have hd3 : K.2.2 3 + 1 ≤ 60 := H.2.2.2.dep.1
    have ew : wsum E ff (i + 1) = wsum E ff i + wdF E (ff + i) := rfl
    -- the frame of what's done
    have keep : ∀ (uA uM : Wd), (∀ r, r < h + wsum E ff i → gl uA 51 r = gl wA 51 r) → (∀ r, K.2.2 2 ≤ r → r < K.2.2 2 + S → r ≠ K.2.2 2 + (1 + 2 * i) → gl uM 83 r = gl wM 83 r) → (∀ q, q < i → FWD E K ff h q uA uM) ∧ (∀ q, i + 1 ≤ q → q < nf → ∃ m1 m2, PRZY E K (ff + q) (a0 + q) (g q) (g (q + 1)) m1 m2 ∧ gl uM 83 (K.2.2 2 + (1 + 2 * q)) = m1 ∧ (gi (vM E) 24 (ff + q) ≠ 2 → gl uM 83 (K.2.2 2 + (1 + 2 * q) + 1) = m2)) := fun uA uM k1 k2 => by
      refine ⟨fun q hq => ?_, fun q q1 q2 => ?_⟩
      · obtain ⟨v1, v2, n1, n2, r1, r2, r3, r4, r5⟩ := hD q hq
        have hwq : wsum E ff q + wdF E (ff + q) ≤ wsum E ff i := by
          have : ∀ (d : Nat), wsum E ff (q + 1) ≤ wsum E ff (q + 1 + d) := by
            intro d
            induction d with
            | zero => exact Nat.le_refl _
            | succ d ih => exact Nat.le_trans ih (Nat.le_add_right _ _)
          have := this (i - (q + 1))
          rw [show q + 1 + (i - (q + 1)) = i by omega] at this
          exact this
        have hwd : 1 ≤ wdF E (ff + q) := by
          unfold wdF
          by_cases z : gi (vM E) 24 (ff + q) = 2 ∨ (gi (vM E) 24 (ff + q) = 1 ∧ gi (vM E) 28 (ff + q) ≠ 0)
          · rw [if_pos z]; exact Nat.le_refl _
          · rw [if_neg z]; omega
        exact ⟨v1, v2, n1, n2, r1, (k1 _ (by omega)).trans r2, fun c => (k1 _ (by omega)).trans (r3 c), (k2 _ (by omega) (by omega) (by omega)).trans r4, fun c => (k2 _ (by omega) (by omega) (by omega)).trans (r5 c)⟩
      · obtain ⟨n1, n2, r1, r2, r3⟩ := hT q (by omega) q2
        exact ⟨n1, n2, r1, (k2 _ (by omega) (by omega) (by omega)).trans r2, fun c => (k2 _ (by omega) (by omega) (by omega)).trans (r3 c)⟩
    by_cases hV : gi (vM E) 24 (ff + i) = 1 ∧ gi (vM E) 28 (ff + i) ≠ 0
    · obtain ⟨h24, h28⟩ := hV
      have hw : wdF E (ff + i) = 1 := by
        unfold wdF
        rw [if_pos (Or.inr ⟨h24, h28⟩)]
      unfold VFC at hv
      rw [if_pos h28, hsM i hin] at hv
      obtain ⟨hv1, hv2⟩ := hv
      obtain ⟨p1, p2⟩ := hpre.2 h24 h28
      have hb6 : c < 60000 := by
        have : ∀ (n i c : Nat), VFC E ff i n c c9 → c ≤ c9 := by
          intro n
          induction n with
          | zero => intro i c h; have h : c9 = c := h; omega
          | succ n ih =>
            intro i c h
            unfold VFC at h
            by_cases z : gi (vM E) 28 (ff + i) ≠ 0
            · rw [if_pos z] at h
              have := ih _ _ h.2
              omega
            · rw [if_neg z] at h
              exact ih _ _ h
        have := this _ _ _ hv2
        omega
      refine (VAL.step (s := 1 + 2 * i) hE hS hX hU hP H hA hon hst hp hH hL hN h24 h28 hv1 hb6 (hm1.trans p1) ((hm2 (by rw [h24]; decide)).trans p2) (by omega) (by omega) (by omega) (fun j B hB => by have := hxa j B hB; omega) (by omega) (fun uA uM sc' i' PD s1 s2 s3 kk s4 => ?_)).2
      obtain ⟨k1, k2⟩ := keep uA uM (fun r hr => kk.1 r hr) s4
      have e : x + ((g (i + 1) : Int) - g i) + 3 + ((g nf : Int) - g (i + 1)) + 3 * (n : Int) = x + ((g nf : Int) - g i) + 3 * ((n + 1 : Nat) : Int) := by omega
      refine ih (i + 1) (c + 1) sc' (x + ((g (i + 1) : Int) - g i) + 3) i' uA uM (by omega) hv2 ?_ (by omega) (fun j B hB => by have := hxa j B hB; omega) (by omega) (fun q hq => ?_) k2 (fun zA zM sc2 t2 PD2 l1 l2 l3 l4 => ?_)
      · rw [ew, hw, ← Nat.add_assoc]; exact PD
      · by_cases hqi : q = i
        · subst hqi
          refine ⟨gl uA 51 (h + wsum E ff q), 0, _, gl uM 83 (K.2.2 2 + (1 + 2 * q) + 1), ⟨fun _ _ => ⟨s2.symm, s3⟩, fun _ c => absurd c h28, fun c => ?_, fun c => ?_, fun c => ?_, fun c => ?_⟩, rfl, fun c => ?_, rfl, fun _ => rfl⟩
          · rw [h24] at c; exact absurd c (by decide)
          · rw [h24] at c; exact absurd c (by decide)
          · rw [h24] at c; exact absurd c (by decide)
          · rw [h24] at c; exact absurd c (by decide)
          · rw [hw] at c; omega
        · exact k1 q (by omega)
      · rw [e] at PD2
        refine G zA zM sc2 t2 PD2 (by omega) l2 ((kk.le (by omega) (Nat.le_refl _) (Nat.le_refl _) (Nat.le_refl _)).tr l3) (fun r r1 r2 r3 => ?_)
        exact (l4 r r1 r2 (fun q q1 q2 => r3 q (by omega) q2)).trans (s4 r r1 r2 (r3 i (Nat.le_refl _) hin))
    · have h28 : ¬ gi (vM E) 28 (ff + i) ≠ 0 := fun c => hV ⟨h24 i hin c, c⟩
      unfold VFC at hv
      rw [if_neg h28] at hv
      obtain ⟨v1, v2, r1, r2⟩ := hpre.1 hV
      have e : x + ((g (i + 1) : Int) - g i) + 3 + ((g nf : Int) - g (i + 1)) + 3 * (n : Int) = x + ((g nf : Int) - g i) + 3 * ((n + 1 : Nat) : Int) := by omega
      refine r2 S _ N (h + wsum E ff i) sp sc x t c K.1.length wA wM H (by omega) (by omega) (by omega) (fun uA i' JP s1 s2 OA => ?_)
      have PD : PEND E K S N (g (i + 1)) c (h + wsum E ff i + wdF E (ff + i)) sp sc (x + ((g (i + 1) : Int) - g i)) i' uA wM := JP
      obtain ⟨k1, k2⟩ := keep uA wM (fun r hr => (OA 51 r (by unfold PSK; omega)).2) (fun _ _ _ _ => rfl)
      have e2 : x + ((g (i + 1) : Int) - g i) + ((g nf : Int) - g (i + 1)) + 3 * (n : Int) = x + ((g nf : Int) - g i) + 3 * (n : Int) := by omega
      refine ih (i + 1) c sc (x + ((g (i + 1) : Int) - g i) + 3) i' uA wM (by omega) hv ?_ hL (fun j B hB => by have := hxa j B hB; omega) (by omega) (fun q hq => ?_) k2 (fun zA zM sc2 t2 PD2 l1 l2 l3 l4 => ?_)
      · rw [ew, ← Nat.add_assoc]; exact PD.up (by omega) (by omega)
      · by_cases hqi : q = i
        · subst hqi
          exact ⟨v1, v2, m1, m2, r1, s1, s2, hm1, hm2⟩
        · exact k1 q (by omega)
      · rw [e] at PD2
        exact G zA zM sc2 t2 PD2 l1 l2 (KEE.tr ⟨fun j hj => (OA 51 j (by unfold PSK; omega)).2, fun k j p q r => (OA k j (by unfold PSK; omega)).1, fun _ _ => rfl, fun _ _ _ _ _ => rfl, PSD.eq (OA 56 3 (by unfold PSK; omega)).1 (OA 56 4 (by unfold PSK; omega)).1⟩ l3) (fun r q1 q2 q3 => l4 r q1 q2 (fun q z1 z2 => q3 q (by omega) z2))
end KF5
