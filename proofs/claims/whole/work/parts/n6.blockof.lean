/-! BOTH SIDES' CODES: a BLOCK, whole; rows of STATEMENTS -/
section NF6
variable {E : SENV} {Lim k p K y j nb s bk i i1 i2 a a' a0 a1 a2 b b' b1 b2 b3 q q' sg W m1 m1' s0 m2 Z nx kp lo hi i0 : Nat} {stk : List Nat} {PA PD PD1 PD2 PS PA1 PA2 : Nat → Nat → Nat → Wd → Prop} {PM PM1 PM2 : Nat → Nat → Nat → Nat → Wd → Prop}
theorem sw_le {slu : Nat → Nat → Nat} {sps : Nat → List (Nat × Nat)} : ∀ (l : List Nat) (b q b' q' : Nat), swkP (vM E) slu p (eLV E p) K sps l b q b' q' (dM E) → (∀ i ∈ l, gi (vM E) 19 i = 5 → ∀ b q b' q', PSW (vM E) (slu i) p (eLV E p) K i ((sps i).map Prod.fst) b q b' q' (dM E) → b < b') → b ≤ b' ∧ q' = q := by
  intro l
  induction l with
  | nil =>
    intro b q b' q' h _
    have := h.1
    exact ⟨by omega, h.2⟩
  | cons i r ih =>
    intro b q b' q' h hP
    rcases h with ⟨h5, b1, q1, h1, h2⟩ | ⟨h5, h2⟩
    · have l1 := hP i List.mem_cons_self h5 _ _ _ _ h1
      obtain ⟨l2, l3⟩ := ih _ _ _ _ h2 (fun z hz => hP z (List.mem_cons_of_mem _ hz))
      exact ⟨by omega, l3.trans h1.2.1⟩
    · exact ih _ _ _ _ h2 (fun z hz => hP z (List.mem_cons_of_mem _ hz))
/-- LABELS of a part, by its codes -/
def LBQ (E : SENV) (Lim s : Nat) (stk : List Nat) (p sg m1 s0 : Nat) (PA : Nat → Nat → Nat → Wd → Prop) (PM : Nat → Nat → Nat → Nat → Wd → Prop) : Prop := ∀ a a' Z b q b' q', PA a a' Z (cA E) → PM b q b' q' (dM E) → Z ≤ eNo E 1 p → q' ≤ eNo E 3 p → a' < eNo E 5 0 → b' < 60000 → s0 ≤ q → LBE E Lim s stk p sg m1 s0 q a a' b'
theorem sp_blk (h : SOK E Lim) (hBk : ∀ s, s < eNo E 5 6 → gi (vM E) 17 s = -1 ∨ ∃ bk, gi (vM E) 17 s = Int32.ofNat bk ∧ bk < 9000) (hB : BLS E s p bk sg W m1 m1') (hs0 : m1' ≤ s0) (hu : UPM (eNo E 5 6) (vM E) (s :: stk)) (hlen : (s :: stk).length < 9000) (hns : s ∉ stk) (hi0 : ∀ y ∈ eSL E s, gi (vM E) 19 y = 2 → i0 ≤ y ∧ y < i1) {ars : List ARE} {l : List Nat} {slu : Nat → Nat → Nat} {sps : Nat → List (Nat × Nat)} {sts : List STE} (hd : DCQ E Lim stk p s bk i0 i1 sg W m1' s0 PD (fun b b' g => arP (vM E) (eLU E stk) p (eLV E p) K ars b b' g)) (hin : ∀ L, L ≤ Lim → SPQ E L (s :: stk) p (sg + W) m1' s0 PS (rwP sts)) (hLB : LBQ E Lim s stk p (sg + W) m1' s0 PS (rwP sts)) (hl : swD (vM E) l i0 i1) (hls : ∀ i ∈ l, i ∈ eSL E s) (hsw : ∀ i ∈ l, gi (vM E) 19 i = 5 → ∀ b q b' q', PSW (vM E) (slu i) p (eLV E p) K i ((sps i).map Prod.fst) b q b' q' (dM E) → b < b')
    (hA : PBLc sg (kpO E p stk) W PD PS a a' Z (cA E)) (hM : PBL (vM E) (eLU E stk) slu p (eLV E p) K bk ars l sps sts b q b' q' (dM E)) (hZ : Z ≤ eNo E 1 p) (hq : q' ≤ eNo E 3 p) (ha : a' < eNo E 5 0) (hb : b' < 60000) (h0 : s0 ≤ q) : (a ≤ a' ∧ b ≤ b' ∧ q ≤ q') ∧ SIT E Lim stk p sg m1 s0 q a a' b b' := by
  obtain ⟨hE, hS, _⟩ := id h
  obtain ⟨wZ, a0, a1, a2, hw, hPD, w1, hPS, w2, e1⟩ := hA
  obtain ⟨o0, b1, b2, b3, hAR, o1, ⟨q2, hSW, hRW⟩, o2, e2⟩ := hM
  subst e1
  subst e2
  obtain ⟨s1, s2⟩ := sw_le l _ _ _ _ hSW hsw
  subst s2
  obtain ⟨⟨g1, g2, g3⟩, _⟩ := hin Lim (Nat.le_refl _) _ _ _ _ _ _ _ hPS hRW hZ hq (by omega) (by omega) h0
  obtain ⟨⟨d1, d2, d3⟩, hD⟩ := hd _ _ _ _ _ q2 hPD hAR (by omega) (by omega)
  have haa : a ≤ a0 := by omega
  refine ⟨⟨by omega, by omega, g3⟩, ?_⟩
  exact SIT.blk hE hBk hB ⟨hs0, h0⟩ hu hlen hns hi0 hw o0 hD w1 o1 (fun ev sp cp na mt el us w M => by
    obtain ⟨_, _, n, y, y1, y2, y3, y4⟩ := sw_jms (s := s) l _ _ _ _ i0 i1 w hls hSW hl (by omega) hsw M
    exact ⟨n, y, by omega, y2, y3, y4⟩) (hin Lim (Nat.le_refl _) _ _ _ _ _ _ _ hPS hRW hZ hq (by omega) (by omega) h0).2 (hLB _ _ _ _ _ _ _ hPS hRW hZ hq (by omega) (by omega) h0) w2 o2 ⟨d1, g1, by omega⟩ ⟨by omega, by omega, by omega, by omega⟩
/-- a row of STATEMENTS -/
theorem spq_nil : SPQ E Lim stk p sg m1 s0 (fun b b' _ _ => b' = b) (rwP []) := fun a a' Z b q b' q' hA hM _ _ _ _ _ => by
  obtain ⟨e1, e2⟩ := hM
  subst hA
  subst e1
  subst e2
  exact ⟨⟨Nat.le_refl _, Nat.le_refl _, Nat.le_refl _⟩, SIT.no⟩
theorem spq_cons {x : STE} {r : List STE} (h1 : SPQ E Lim stk p sg m1 s0 PA1 x.2.2.2.2) (h2 : SPQ E Lim stk p sg m1' s0 PA2 (rwP r)) (hm : m1 ≤ m1') (hle2 : ∀ a a' Z, PA2 a a' Z (cA E) → a ≤ a') (hleM : ∀ b q b' q', rwP r b q b' q' (dM E) → b ≤ b' ∧ q ≤ q') (hq1 : ∀ b q b' q', x.2.2.2.2 b q b' q' (dM E) → q ≤ q') : SPQ E Lim stk p sg m1 s0 (fun b b' Z g => ∃ b1, PA1 b b1 Z g ∧ PA2 b1 b' Z g) (rwP (x :: r)) := fun a a' Z b q b' q' ⟨a1, hA1, hA2⟩ ⟨b1, q1, hM1, hM2⟩ hZ hq ha hb h0 => by
  have u1 := hle2 _ _ _ hA2
  have u2 := hleM _ _ _ _ hM2
  have u3 := hq1 _ _ _ _ hM1
  obtain ⟨⟨g1, g2, g3⟩, s1⟩ := h1 _ _ _ _ _ _ _ hA1 hM1 hZ (by omega) (by omega) (by omega) h0
  obtain ⟨⟨g4, g5, g6⟩, s2⟩ := h2 _ _ _ _ _ _ _ hA2 hM2 hZ hq ha hb (by omega)
  exact ⟨⟨by omega, by omega, by omega⟩, SIT.seq s1 (s2.mono (Nat.le_refl _) hm u3) ⟨g1, g4⟩⟩
/-- LABELS of a row -/
theorem LBE.wid {a9 b9 : Nat} (h : LBE E Lim s stk p sg m1' s0 m2 a a' b') (h2 : ∀ L, L ≤ Lim → SIT E L (s :: stk) p sg m1' s0 m2 a' a9 b' b9) (ha : a' ≤ a9) (hm : m1 ≤ m1') : LBE E Lim s stk p sg m1 s0 m2 a a9 b9 := fun l hl h4 => by
  obtain ⟨al, cl, q1, q2, q3, q4, q5, q6, q7, q8⟩ := h l hl h4
  exact ⟨al, cl, q1, q2, q3, q4, q5, q6, by omega, fun L hL => ((q8 L hL).seq (h2 L hL) ⟨by omega, ha⟩).mono (Nat.le_refl _) hm (Nat.le_refl _)⟩
end NF6
