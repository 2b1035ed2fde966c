/-! BOTH MACHINES: ACTUALS that aren't worked out, all kinds -/
section KB1
variable {E : SENV} {K : CXT} {Lim p nx a a1 b b1 h sp sc i el j S k n f ac y th a0 b0 : Nat} {x x1 : Int} {wA wM uA uM : Wd} {A B N : ACT} {F : Nat → Int64} {stk : List Nat}
/-- an ACTUAL with its words and codes -/
def ANO (E : SENV) (stk : List Nat) (p k n f ac a a1 b b1 : Nat) : Prop := SCE E stk ∧ CDC (vM E) (vA E) (eLU E stk) (eLV E p) (k + 1) 5 n f a a1 (cA E) ∧ CDM (vM E) (eLU E stk) (eLV E p) (k + 1) 5 n f ac b b1 (dM E) ∧ FLX (vM E) (eLU E stk) p (k + 1) 5 n f = [] ∧ OKN (vM E) (k + 1) 5 n ∧ MD5 E 5 f ∧ a1 < eNo E 5 0 ∧ b1 < 60000
theorem ANO.f6 (h : ANO E stk p k n f ac a a1 b b1) : f < eNo E 5 2 ∧ gi (vM E) 19 f = 6 := by
  rcases h.2.2.2.2.2.1 with c | c
  · omega
  · exact c.2
theorem ANO.w16 (hS : SYS E) (h : ANO E stk p k n f ac a a1 b b1) : gi (vA E) 16 (f + 1) = 3 ↔ gi (vM E) 28 f = 0 := by
  obtain ⟨kd, m, C, hY⟩ := hS.sy h.f6.1
  exact ⟨fun q => (hY.fml.mp q).2, fun q => hY.fml.mpr ⟨h.f6.2, q⟩⟩
/-- by name -/
theorem ANO.thv (hS : SYS E) (h : ANO E stk p k n f ac a a1 b b1) (hst : ∀ s ∈ stk, s ∈ aK A) (hp : aP A = p) (h24 : gi (vM E) 24 f = 1) (h28 : gi (vM E) 28 f = 0) : ∃ e th, a1 = e + 1 ∧ a + 1 ≤ e ∧ gl (cA E) 41 a = jwC 33 e ∧ gl (cA E) 41 e = wdC 23 0 (Int32.ofNat (a + 1)) ∧ gi (dM E) 52 ac = 1 ∧ gi (dM E) 53 ac = Int32.ofNat th ∧ th < 6000 ∧ THV E (a + 1) th (gi (vM E) 20 f) A := by
  have w16 := (h.w16 hS).mpr h28
  obtain ⟨hk, hc, hm, hf, ho, h5, ha, hb⟩ := h
  subst hp
  rw [cdc5_1n h24 w16] at hc
  rw [cdm5_1 h24] at hm
  rw [okn5] at ho
  obtain ⟨_, o2, _⟩ := ho f
  obtain ⟨o3, o4, o5, o6⟩ := o2 h24 h28
  obtain ⟨e, c1, c2, c3, c4⟩ := hc
  obtain ⟨d1, d2, th, g1, t1, t2, t3, d3, d4⟩ := hm
  have hft := flx5_t h24 hf
  rw [flx5_1 h24] at hf
  obtain ⟨hf1, hf2⟩ := app_nil hf
  obtain ⟨l, hl⟩ : ∃ l, eLU E stk (nd (vM E) 12 n) = l := ⟨_, rfl⟩
  have his := hS.is hk (tk := nd (vM E) 12 n) (x := 1) (by decide) (by decide)
  have hiA := hS.is hk (tk := nd (vM E) 12 n) (x := 2) (by decide) (by decide)
  have hnm : l ≠ 0 → l - 1 < eNo E 5 2 := fun q => hS.nm hk (tk := nd (vM E) 12 n) (y := l - 1) (by omega)
  rw [hl] at his hiA hf2 c4 d4
  by_cases z1 : gi (vM E) 7 n = 3 ∧ gi (vA E) 14 l = 1 ∧ gi (vA E) 16 l = 3
  · rw [if_pos z1] at c4
    obtain ⟨z2, z3, z4⟩ := z1
    obtain ⟨q0, q1⟩ := his.mp z3
    obtain ⟨w1, w2⟩ := hS.v16 (hnm q0)
    rw [show l - 1 + 1 = l by omega] at w1 w2
    have hFO : FO (vM E) (l - 1) 1 := q1.elim (fun q => absurd z4 (w1 q)) id
    have h0 := (w2 hFO).mp z4
    rw [if_neg (by
      rintro (g | ⟨_, g | g⟩)
      · rw [z2] at g; exact absurd g (by decide)
      · exact absurd (hFO.1.symm.trans g) (by decide)
      · exact g.2 h0), if_pos ⟨z2, hFO⟩] at d4
    rw [if_pos ⟨z2, q0, hFO⟩] at hf2
    obtain ⟨c5, c6, c7, c8⟩ := c4
    obtain ⟨d5, d6, d7, d8⟩ := d4
    subst c8
    subst d7
    have hty : gi (vM E) 20 (l - 1) = gi (vM E) 20 f := (misT_n hf2).elim (fun q => absurd q (hS.tn (hnm q0) (Or.inr (Or.inl hFO)))) id
    refine ⟨_, th, c3, by omega, c1, c2, d1, t2, t1, stk, k, n, b + 1, a + 3, b + 2, hst, t1, t3, Or.inr (Or.inr ⟨d5, rfl, rfl, ?_, c6, c7, d8⟩), ⟨by omega, by omega⟩, by omega, by omega⟩
    rw [hl]
    exact ⟨q0, hFO, h0, hty, c5, d6⟩
  rw [if_neg z1] at c4
  by_cases z2 : gi (vM E) 7 n = 3 ∧ gi (vA E) 14 l = 1 ∨ gi (vM E) 7 n = 4 ∧ gi (vA E) 14 l = 2
  · rw [if_pos z2] at c4
    obtain ⟨e2, c5, c6, c7⟩ := c4
    have h34 : gi (vM E) 7 n = 3 ∨ gi (vM E) 7 n = 4 := z2.imp (fun q => q.1) (fun q => q.1)
    have hl0 : l ≠ 0 := z2.elim (fun q => (his.mp q.2).1) (fun q => (hiA.mp q.2).1)
    have hcase : gi (vM E) 7 n = 4 ∨ gi (vM E) 7 n = 3 ∧ (gi (vM E) 19 (l - 1) = 1 ∨ FO (vM E) (l - 1) 1 ∧ gi (vM E) 28 (l - 1) ≠ 0) := by
      rcases z2 with ⟨q1, q2⟩ | ⟨q1, _⟩
      · refine Or.inr ⟨q1, ?_⟩
        rcases (his.mp q2).2 with g | g
        · exact Or.inl g
        · refine Or.inr ⟨g, fun z => z1 ⟨q1, q2, ?_⟩⟩
          have := (hS.v16 (hnm hl0)).2 g
          rw [show l - 1 + 1 = l by omega] at this
          exact this.mpr z
      · exact Or.inl q1
    rw [if_pos hcase] at d4
    obtain ⟨d5, d6, d7⟩ := d4
    have hfl : FLX (vM E) (eLU E stk) (aP A) k 1 n 0 = [] := hft.2 (by
      rcases z2 with ⟨q1, q2⟩ | ⟨q1, _⟩
      · rw [hl]; exact Or.inl ⟨q1, hl0, (his.mp q2).2.elim Or.inr Or.inl⟩
      · exact Or.inr q1)
    have hty : tyP (vM E) (eLU E stk) (aP A) 0 n = gi (vM E) 20 f := by
      unfold tyP
      rw [hl]
      rcases z2 with ⟨q1, q2⟩ | ⟨q1, q2⟩
      · have q3 := (his.mp q2).2
        have hn4 : ¬ gi (vM E) 7 n = 4 := by rw [q1]; decide
        rw [if_neg hn4]
        unfold plT
        rw [if_neg hl0, if_pos q3]
        have hx : gi (vM E) 20 (l - 1) ≠ 0 := hS.tn (hnm hl0) (q3.elim Or.inl (fun g => Or.inr (Or.inl g)))
        by_cases g : FO (vM E) (l - 1) 1
        · rw [if_pos ⟨q1, hl0, g⟩] at hf2
          exact (misT_n hf2).elim (fun q => absurd q hx) id
        · rw [if_neg (fun c => g c.2.2), if_pos (Or.inr ⟨q1, hl0, q3.elim id (fun c => absurd c g)⟩), if_neg hn4] at hf2
          exact (misT_n hf2).elim (fun q => absurd q hx) id
      · have hn3 : ¬ gi (vM E) 7 n = 3 := by rw [q1]; decide
        rw [if_pos q1]
        rw [if_neg (fun c => hn3 c.1), if_pos (Or.inl q1), if_pos q1] at hf2
        refine (misT_n hf2).elim (fun q => ?_) id
        have q3 := (hiA.mp q2).2
        unfold tyE at q
        rw [if_neg hl0, if_pos q3] at q
        exact absurd q (hS.tn (hnm hl0) (q3.elim (fun g => Or.inr (Or.inr (Or.inl g))) (fun g => Or.inr (Or.inr (Or.inr g)))))
    have o7 := o5 h34
    have le := WLE hS hk k 1 n 0 (Or.inl (by omega)) o7 hfl
    have e3 := le.1 _ _ _ _ c5
    have e4 := le.2 _ _ _ _ _ d6
    refine ⟨_, th, c3, by omega, c1, c2, d1, t2, t1, stk, k, n, b + 1, e2, g1, hst, t1, t3, Or.inr (Or.inl ⟨d5, c5, c6, d6, d7, hfl, hty, o6, o7⟩), ⟨e3, e4⟩, by omega, by omega⟩
  · rw [if_neg z2] at c4
    obtain ⟨c5, e2, c6, c7, c8⟩ := c4
    have hk1 : ∃ k', k = k' + 1 := by
      cases k with
      | zero => exact c6.elim
      | succ k' => exact ⟨k', rfl⟩
    have n4 : ¬ gi (vM E) 7 n = 4 := fun q => by
      obtain ⟨k', e9⟩ := hk1
      subst e9
      have hx := hft.2 (Or.inr q)
      rw [flx1_4 q rfl] at hx
      obtain ⟨r1, _, r2⟩ := elL_n (hS.no0 hk) hx
      rw [hl] at r1 r2
      exact z2 (Or.inr ⟨q, hiA.mpr ⟨r1, r2.imp (fun c => c.1) (fun c => c.1)⟩⟩)
    have n1 : gi (vM E) 7 n = 3 → l ≠ 0 → ¬ (gi (vM E) 19 (l - 1) = 1 ∨ FO (vM E) (l - 1) 1) := fun q q0 q1 => z2 (Or.inl ⟨q, his.mpr ⟨q0, q1⟩⟩)
    have hl0 : gi (vM E) 7 n = 3 → l ≠ 0 := fun q => by
      obtain ⟨k', e9⟩ := hk1
      subst e9
      have hx := hft.1
      rw [flx0_3 q] at hx
      have := (flY_n (hS.no0 hk) hx).1
      rw [hl] at this
      exact this
    have hcase : ¬ (gi (vM E) 7 n = 4 ∨ gi (vM E) 7 n = 3 ∧ (gi (vM E) 19 (l - 1) = 1 ∨ FO (vM E) (l - 1) 1 ∧ gi (vM E) 28 (l - 1) ≠ 0)) := by
      rintro (g | ⟨g, g'⟩)
      · exact n4 g
      · exact n1 g (hl0 g) (g'.imp id (fun c => c.1))
    rw [if_neg hcase, if_neg (fun c => n1 c.1 (hl0 c.1) (Or.inr c.2))] at d4
    obtain ⟨d5, d6, d7⟩ := d4
    rw [if_neg (fun c => n1 c.1 c.2.1 (Or.inr c.2.2)), if_neg (fun c => c.elim n4 (fun c => n1 c.1 c.2.1 (Or.inl c.2.2)))] at hf2
    have hty : TYX (vM E) (eLU E stk) k n = gi (vM E) 20 f := (misT_n hf2).elim (fun q => by
      rcases TYX_12 hS hk k n d6 o3 hft.1 with g | g <;> rw [q] at g <;> exact absurd g (by decide)) id
    have le := WLE hS hk k 0 n 0 (Or.inl (by omega)) o3 hft.1
    have e3 := le.1 _ _ _ _ c6
    have e4 := le.2 _ _ _ _ _ d6
    refine ⟨_, th, c3, by omega, c1, c2, d1, t2, t1, stk, k, n, b + 1, e2, g1, hst, t1, t3, Or.inl ⟨d5, c5, c6, c7, d6, d7, hft.1, hty, o4, o3⟩, ⟨by omega, e4⟩, by omega, by omega⟩
end KB1
