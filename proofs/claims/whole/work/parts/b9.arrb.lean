/-! BOTH SIDES: bounds of ARRAYS -/
section JT
variable {kd wr nm : Nat → Nat} {vv : Nat → Int64} {m z : Nat} {gA gM : Wd} {lv : Bool} {sl us B : Nat} {stk obl stkF : List Nat} {prs : PRL} {C TK : Nat → Nat} {SL : Nat → List Nat} {t d b : Nat} {fa : Int32} {wA wM : Wd} {γ α : Type} {wd : γ → Wd} {S : γ → α → Wd → Prop} {P : (Nat → Nat) → Nat → Wd → Wd → Prop}
/-- the reference, from behind the NAMES to behind the bounds -/
theorem m_arM {s : Nat} {N : Nat} (hN : N = FU) (hJ : JL kd wr nm vv m z gA gM sl us (s :: stk) prs C TK SL t d wA wM) (hd40 : d ≤ 40) (hnd : C 0 + 1 ≤ 2 * t + 100) {a4 : Int32} :
    (∀ p, arX kd d t = .inl p → ∃ v, arM N (hdM stk) a4 wM = some (none, v) ∧ gi v 0 9 = Int32.ofNat (wr p) ∧ OFF PMM v wM) ∧
    (∀ e, arX kd d t = .inr e → ∃ n u xs e0, arM N (hdM stk) a4 wM = oX12_arrays_213 N (Int32.ofNat (C 1)) (Int32.ofNat (C 0)) (Int32.ofNat (bdC kd (d + 1) 3 (t + 1))) a4 u ∧ SM kd wr m u e d ∧ gi u 0 23 = Int32.ofNat (n + 1) ∧ C 0 ≤ n ∧ n + 1 + t ≤ C 0 + e ∧ OFF (PXN (C 0)) u wM ∧ kd t = 45 ∧ d ≤ 39 ∧ e = e0 + 1 ∧ kd e0 = 46 ∧ xs.length = 2 * bdC kd (d + 1) 3 (t + 1) ∧ 1 ≤ bdC kd (d + 1) 3 (t + 1) ∧ bdC kd (d + 1) 3 (t + 1) ≤ 3 ∧ gi u 7 (C 0) = 40 ∧ gi u 8 (C 0) = a4 ∧ gi u 9 (C 0) = Int32.ofNat (C 1) ∧ gi u 10 (C 0) = Int32.ofNat (xs.headD 0) ∧ gi u 11 (C 0) = -1 ∧ ∀ fA, FBD kd fA (d + 1) 3 (t + 1) → PRSX kd fA u (hdM stk) (d + 1) xs (C 0 + 1) (t + 1) e0 (n + 1)) := by
  obtain ⟨fo, hfo⟩ := FU_ge (k := 4) (by omega)
  have hs := hJ.2.1
  have h23 : gi wM 0 23 = Int32.ofNat (C 0) := hJ.2.2.2.2.2.2.2.2.2.1.1
  have h42 : gi wM 0 42 = Int32.ofNat (C 1) := hJ.2.2.2.2.2.2.2.1.2.1
  have h29 : gi wM 0 29 = hdM (s :: stk) := hJ.2.2.2.2.2.2.2.2.1
  have hz9 := hJ.1.z9
  have htz := hJ.1.tz
  have h7 : gi wM 0 7 = Int32.ofNat t := hs.2.2.2.1
  unfold arM arX
  rw [h42, ltq, h7]
  obtain ⟨u1, n1, n2, n3, n4, n5, n6, n7, n8, n9, n10, n11⟩ := nd_ok (a1 := 40) (a2 := a4) (a3 := Int32.ofNat (C 1)) (a4 := -1) (a5 := Int32.ofNat t) hs h23 (by omega)
  rw [n1, bn2_so]
  have hO1 : OFF (PXN (C 0)) u1 wM := n11.mono fun k j hk => by unfold PN at hk; unfold PXN; omega
  by_cases q45 : kd t = 45
  · rw [if_pos q45, m_expect (x := 91) (k := 45) n2 hd40 rfl (by omega) q45, be_so]
    have htm := n2.lt (by omega)
    have e8 : gi (si u1 0 7 (Int32.ofNat (t + 1))) 0 8 = Int32.ofNat d := by rw [gi_si1 (by omega)]; exact n2.2.2.2.2
    rw [e8, ad1_iN, ltq]
    have hO2 : OFF (PXN (C 0)) (si (si u1 0 7 (Int32.ofNat (t + 1))) 0 8 (Int32.ofNat (d + 1))) wM := OFF.tr (OFF.si (by unfold PXN; omega)) (OFF.tr (OFF.si (by unfold PXN; omega)) hO1)
    have s2 : SM kd wr m (si (si u1 0 7 (Int32.ofNat (t + 1))) 0 8 (Int32.ofNat (d + 1))) (t + 1) (d + 1) := (n2.goT (t' := t + 1) (by omega)).goD (by omega)
    have v7 : ∀ k, 7 ≤ k → gi (si (si u1 0 7 (Int32.ofNat (t + 1))) 0 8 (Int32.ofNat (d + 1))) k (C 0) = gi u1 k (C 0) := fun k hk => by rw [gi_si1 (by omega), gi_si1 (by omega)]
    have v23 : gi (si (si u1 0 7 (Int32.ofNat (t + 1))) 0 8 (Int32.ofNat (d + 1))) 0 23 = Int32.ofNat (C 0 + 1) := by rw [gi_si1 (by omega), gi_si1 (by omega)]; exact n3
    have v29 : gi (si (si u1 0 7 (Int32.ofNat (t + 1))) 0 8 (Int32.ofNat (d + 1))) 0 29 = Int32.ofNat s := by rw [(hO2 0 29 (by unfold PXN; omega)).1]; exact h29
    generalize si (si u1 0 7 (Int32.ofNat (t + 1))) 0 8 (Int32.ofNat (d + 1)) = u2 at hO2 s2 v7 v23 v29 ⊢
    rw [ltq, v29, ltq]
    have s3 : SM kd wr m (si u2 0 29 (hdM stk)) (t + 1) (d + 1) := s2.si (by omega) (by omega)
    by_cases q40 : 40 ≤ d
    · rw [if_pos q40]
      refine ⟨fun p hp => ?_, fun e he => nomatch he⟩
      have hp' : t + 1 = p := by injection hp
      subst hp'
      have hd41 : d + 1 = 41 := by omega
      rw [hd41] at s3
      rw [hN, hfo]
      show ∃ v, fX12_arrays_95 (oX12_arrays_95 (fo + 3)) a4 (Int32.ofNat (C 1)) (Int32.ofNat (C 0)) (Int32.ofNat s) 0 (-1) (si u2 0 29 (hdM stk)) = _ ∧ _
      unfold fX12_arrays_95
      rw [if_neg (by decide), dp_expr (by omega) _ _ s3]
      exact ⟨_, rfl, gi_si0 _ _ _ _, OFF.tr (OFF.si (by unfold PMM; omega)) (OFF.tr (OFF.si (by unfold PMM; omega)) (hO2.mono fun k j hk => by unfold PXN at hk; unfold PMM; omega))⟩
    · rw [if_neg q40]
      have hI : INS kd wr m (hdM stk) (si u2 0 29 (hdM stk)) (t + 1) (d + 1) (C 0 + 1) := ⟨s3, by rw [gi_si1 (by omega)]; exact v23, by omega, gi_si0 _ _ _ _⟩
      obtain ⟨z1, z2⟩ := m_br (sc := hdM stk) (d := d + 1) (a4 := a4) (a5 := Int32.ofNat (C 1)) (a7 := Int32.ofNat s) (an := C 0) (by omega) (by omega) 2 fo 0 (t + 1) (C 0 + 1) none (si u2 0 29 (hdM stk)) (by omega) hI (show C 0 < C 0 + 1 by omega)
      have e95 : oX12_arrays_95 N a4 (Int32.ofNat (C 1)) (Int32.ofNat (C 0)) (Int32.ofNat s) 0 (-1) (si u2 0 29 (hdM stk)) = oX12_arrays_95 (fo + 2 + 2) a4 (Int32.ofNat (C 1)) (Int32.ofNat (C 0)) (Int32.ofNat s) (Int32.ofNat 0) (lkI none) (si u2 0 29 (hdM stk)) := by
        rw [hN, hfo]
        rfl
      rw [e95]
      have hO3 : OFF PMM (si u2 0 29 (hdM stk)) wM := OFF.tr (OFF.si (by unfold PMM; omega)) (hO2.mono fun k j hk => by unfold PXN at hk; unfold PMM; omega)
      refine ⟨fun p hp => ?_, fun e he => ?_⟩
      · obtain ⟨u, a1, a2, a3⟩ := z1 p hp
        refine ⟨u, a1, a2, OFF.tr (a3.mono fun k j hk => ?_) hO3⟩
        unfold PXB PXN at hk
        unfold PMM
        rcases hk with hk | hk | hk
        · omega
        · omega
        · have hk' : k = 10 ∧ j = C 0 := hk
          omega
      · obtain ⟨n, u, x, xs, e0, a1, a2, a3, a4', a5, a6, a7, a8, a9, a10, a11, a12, a13, a14, a15⟩ := z2 e he
        have hlk : gi u 10 (C 0) = Int32.ofNat x := a8
        have hst : ∀ k, 7 ≤ k ∧ k ≤ 13 → k ≠ 10 → gi u k (C 0) = gi u1 k (C 0) := fun k hk h10 => by
          rw [(a7 k (C 0) (fun hq => by
            unfold PXB PXN at hq
            rcases hq with hq | hq | hq
            · omega
            · omega
            · have hq' : k = 10 ∧ C 0 = C 0 := hq
              omega)).1, gi_si1 (by omega)]
          exact v7 k hk.1
        refine ⟨n, u, x :: xs, e0, ?_, a2, a3, by omega, by omega, fun k j hk => ?_, q45, by omega, a9, a10, a11, a12, a13, ?_, ?_, ?_, hlk, ?_, a15⟩
        · rw [a1, ← hN, Nat.zero_add]
        · by_cases q29 : k = 0 ∧ j = 29
          · rw [q29.1, q29.2]
            refine ⟨a6.1.trans h29.symm, a6.2.trans ?_⟩
            exact (hO2 0 29 (by unfold PXN; omega)).2
          · have g1 := a7 k j (fun hq => by
              unfold PXB PXN at hq
              unfold PXN at hk
              rcases hq with hq | hq | hq
              · omega
              · omega
              · have hq' : k = 10 ∧ j = C 0 := hq
                omega)
            have g2 := hO2 k j hk
            exact ⟨g1.1.trans ((gi_si1 q29).trans g2.1), g1.2.trans g2.2⟩
        · rw [hst 7 (by omega) (by omega)]; exact n4
        · rw [hst 8 (by omega) (by omega)]; exact n5
        · rw [hst 9 (by omega) (by omega)]; exact n6
        · rw [hst 11 (by omega) (by omega)]; exact n8
  · rw [if_neg q45, m_expect_no (x := 91) (k := 45) n2 rfl (by omega) (Or.inr q45) (by omega)]
    refine ⟨fun p hp => ?_, fun e he => nomatch he⟩
    have hp' : t = p := by injection hp
    subst hp'
    exact ⟨_, rfl, gi_si0 _ _ _ _, OFF.tr (OFF.si (by unfold PMM; omega)) (hO1.mono fun k j hk => by unfold PXN at hk; unfold PMM; omega)⟩
/-- bounds, on both sides -/
theorem J.bnds (hT : TOKS kd wr nm vv m z gA gM) {s : Nat} (hS : STBJ (s :: stk) prs obl P) (hst : STJ kd wr nm vv m z gA gM lv sl us (s :: stk) prs C TK SL t d b fa wA wM) (hP : lv = true → P C t wA wM) (hd : d ≤ 41 ∧ (lv = true → d ≤ 40 ∧ C 0 + 1 ≤ 2 * t + 100)) (hb : 2800 ≤ b) (hs1 : sl ≤ 1) {N : Nat} (hN : N = FU) {a3 a4 a5 : Int32} {KA : Wd → Option γ} {KM : Int32 → Wd → Option (Option α × Wd)}
    (H : ∀ lv' x t' fa' uA uM n, STJ kd wr nm vv m z gA gM lv' 0 us (s :: stk) prs (upC C 0 (n + 1)) TK SL t' d b fa' uA uM → (lv' = true → lv = true ∧ t < t' ∧ t' ≤ m ∧ C 0 ≤ n ∧ n + 1 + t ≤ C 0 + t' ∧ P (upC C 0 (n + 1)) t' uA uM ∧ ∃ xs e0 bb, x = Int32.ofNat bb ∧ kd t = 45 ∧ d ≤ 39 ∧ t' = e0 + 1 ∧ kd e0 = 46 ∧ xs.length = 2 * bb ∧ 1 ≤ bb ∧ bb ≤ 3 ∧ gi uM 7 (C 0) = 40 ∧ gi uM 8 (C 0) = a4 ∧ gi uM 9 (C 0) = Int32.ofNat (C 1) ∧ gi uM 10 (C 0) = Int32.ofNat (xs.headD 0) ∧ gi uM 11 (C 0) = -1 ∧ PRSX kd uA uM (hdM stk) (d + 1) xs (C 0 + 1) (t + 1) e0 (n + 1)) → (lv' = false → t' = z - 1) → GLJ kd wr nm z gA gM wd lv' stkF fa' B (bn (oX4_arrays_68 N a3 a5 x 0 uA) KA) (be (oX12_arrays_213 N (Int32.ofNat (C 1)) (Int32.ofNat (C 0)) x a4 uM) KM) S) :
    GLJ kd wr nm z gA gM wd lv stkF fa B (arA N (Int32.ofNat d) a3 a5 KA wA) (be (arM N (hdM stk) a4 wM) KM) S := by
  have hin := hst.in1
  have hk0 : lv = false → kd t = 0 := fun h => by
    rcases hst with ⟨q, _⟩ | ⟨_, q, h3⟩
    · rw [h] at q; exact absurd q (by decide)
    · rw [q]; exact h3.1.zk
  have h26 : gi wA 26 10 = 0 := by
    rcases hst with ⟨_, _, h3⟩ | ⟨_, _, h3⟩
    · exact h3.2.2.2.2.2.2.1.2.2.1.2.2
    · obtain ⟨_, _, _, _, _, _, _, f, _⟩ := h3
      exact f.2.2.1.2.2
  have hdd : d ≤ 40 ∨ kd t = 0 := by
    cases lv
    · exact Or.inr (hk0 rfl)
    · exact Or.inl (hd.2 rfl).1
  obtain ⟨x, uA, r1, r2, r3, r4, r5⟩ := a_bounds hT.1 hT.2.1 hin h26 hdd
  unfold arA
  rw [r1, bn2_so]
  rcases hst with ⟨h1, h2, h3⟩ | ⟨h1, h2, h3⟩
  · subst h1
    subst h2
    obtain ⟨hd40, hnd⟩ := hd.2 rfl
    obtain ⟨q1, q2⟩ := m_arM (a4 := a4) hN h3 hd40 hnd
    rcases ho : arX kd d t with p | e
    · obtain ⟨v, v1, v2, v3⟩ := q1 p ho
      have hin' := r4 p ho
      rw [FA_1] at hin'
      have hD := h3.ofPE hb hin' (hT.1 p) (hT.1 t) r3
      obtain ⟨g, g1, g2⟩ := (H false x (z - 1) _ uA wM 0 (Or.inr ⟨rfl, rfl, hD⟩) (fun h => absurd h (by decide)) (fun _ => rfl)).1 rfl
      rw [v1, be_no]
      exact ⟨fun h => absurd h (by decide), fun _ => Or.inl ⟨p, g, v, g1, g2, rfl, v2, OFF.tr v3 h3.2.2.2.1⟩⟩
    · obtain ⟨n, uM, xs, e0, m1, m2, m3, m4, m5, m6, m7, m8, m9, m10, m11, m12, m13, m14, m15, m16, m17, m18, m19⟩ := q2 e ho
      obtain ⟨s1, s2, s3, s4⟩ := r5 e ho
      rw [m1, ← s3]
      have hbb := h3.2.2.2.2.2.1
      have hem := m2.2.1
      have hw1 := hT.2.2.2.2.2.2.1 t (by omega)
      have hw2 := hT.mono (t := t + 1) (t' := e) (by omega) hem
      have hw3 : 1 ≤ wlN (kd t) := by
        unfold wlN
        repeat' split
        all_goals omega
      have hJ := JL.mv (sl' := 0) (n := n + 1) hT h3 (r3.mono PE1.xa) (m6.mono PXN.xm) s2 m2 m3 (by omega) (by omega) (by omega) (by omega)
      have hSt : STEP C t (s :: stk) prs obl wA wM (upC C 0 (n + 1)) e uA uM := STEP.xa (fun k j hk => (r3 k j (by unfold PE1; omega)).1) m6 (by omega) (by omega)
      exact H true x e (-1) uA uM n (Or.inl ⟨rfl, rfl, hJ⟩) (fun _ => ⟨rfl, by omega, hem, m4, m5, hS _ _ _ _ _ _ _ _ (hP rfl) hSt, xs, e0, bdC kd (d + 1) 3 (t + 1), s3, m7, m8, m9, m10, m11, m12, m13, m14, m15, m16, m17, m18, m19 uA s4⟩) (fun h => absurd h (by decide))
  · subst h1
    have hin' := r4 t (by
      unfold arX
      rw [if_neg (by have := hk0 rfl; omega)])
    have hfa : FA wr fa t = fa := if_pos h3.2.1
    rw [hfa] at hin'
    have hD := h3.ofPE hin' r3 (Nat.le_refl _)
    exact ⟨fun _ => (H false x (z - 1) fa uA wM 0 (Or.inr ⟨rfl, rfl, hD⟩) (fun h => absurd h (by decide)) (fun _ => rfl)).1 rfl, fun h => absurd h (by decide)⟩
end JT
