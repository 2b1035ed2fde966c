/-! BOTH MACHINES: nodes, the easy kinds -/
section NZ
/-- literals -/
def LIT (E : SENV) : Prop := ∀ n, (gi (vM E) 7 n = 1 → ∃ tk, gi (vM E) 12 n = Int32.ofNat tk ∧ tk < 8194 ∧ gl (vA E) 7 tk = gl (dM E) 4 tk ∧ R36 (gl (dM E) 4 tk)) ∧ (gi (vM E) 7 n = 2 → gi (vM E) 8 n = 0 ∨ gi (vM E) 8 n = 1)
variable {E : SENV} {Lim k n p nx a a1 b b1 y tk : Nat} {stk : List Nat}
/-- a node with its words and codes -/
def NOD (E : SENV) (stk : List Nat) (p k md n a a1 b b1 : Nat) : Prop := SCE E stk ∧ CDC (vM E) (vA E) (eLU E stk) (eLV E p) k md n 0 a a1 (cA E) ∧ CDM (vM E) (eLU E stk) (eLV E p) k md n 0 0 b b1 (dM E) ∧ FLX (vM E) (eLU E stk) p k md n 0 = [] ∧ OKN (vM E) k md n ∧ a1 < eNo E 5 0 ∧ b1 < 60000
def SIM (E : SENV) (Lim : Nat) (stk : List Nat) (p k md n a a1 b b1 : Nat) : Prop := SIG E Lim stk p (PMD E stk p k md n) (cnP md) (NDX (vM E) k md n) a a1 b b1
theorem NOD.le (hS : SYS E) {md : Nat} (hm : md ≤ 2) (h : NOD E stk p k md n a a1 b b1) : a ≤ a1 ∧ b ≤ b1 := by
  obtain ⟨h1, h2, h3, h4, h5, h6, h7⟩ := h
  have := WLE hS h1 k md n 0 (Or.inl hm) h5 h4
  exact ⟨this.1 _ _ _ _ h2, this.2 _ _ _ _ _ h3⟩
theorem NOD.sim {md : Nat} (ih : ALLk E Lim k) (hm : md ≤ 2) (h : NOD E stk p k md n a a1 b b1) : SIM E Lim stk p k md n a a1 b b1 := by
  obtain ⟨h1, h2, h3, h4, h5, h6, h7⟩ := h
  exact ih md n stk p a a1 b b1 hm h1 h2 h3 h4 h5 h6 h7
theorem SIM.v (h : SIM E Lim stk p k 0 n a a1 b b1) : SIV E Lim stk p (TYX (vM E) (eLU E stk) k n) (NDX (vM E) k 0 n) a a1 b b1 := SIV_g.mpr h
theorem SIM.of (h : SIV E Lim stk p (TYX (vM E) (eLU E stk) k n) (NDX (vM E) k 0 n) a a1 b b1) : SIM E Lim stk p k 0 n a a1 b b1 := SIV_g.mp h
theorem NOD.n1 (hE : EOKS E) (hT : LIT E) (H : NOD E stk p (k + 1) 0 n a a1 b b1) (h : gi (vM E) 7 n = 1) : SIM E Lim stk p (k + 1) 0 n a a1 b b1 := by
  obtain ⟨h1, h2, h3, h4, h5, h6, h7⟩ := H
  rw [cdc0_1 h] at h2
  rw [cdm0_1 h] at h3
  obtain ⟨c1, c2, c3⟩ := h2
  obtain ⟨d1, d2⟩ := h3
  obtain ⟨tk, t1, t2, t3, t4⟩ := (hT n).1 h
  have et : nd (vM E) 12 n = tk := by unfold nd; rw [t1]; exact tc_iN (by omega)
  rw [t1] at d1
  rw [et, t3] at c2
  subst c3
  subst d2
  apply SIM.of
  rw [tyx_1 h, ndx0_1 (Or.inl h)]
  exact SIV.lit hE d1 c1 c2 t2 (by omega) (by omega) (Nat.le_refl _) t4
theorem NOD.n2 (hE : EOKS E) (hT : LIT E) (H : NOD E stk p (k + 1) 0 n a a1 b b1) (h : gi (vM E) 7 n = 2) : SIM E Lim stk p (k + 1) 0 n a a1 b b1 := by
  obtain ⟨h1, h2, h3, h4, h5, h6, h7⟩ := H
  rw [cdc0_2 h] at h2
  rw [cdm0_2 h] at h3
  obtain ⟨c1, c2, c3⟩ := h2
  obtain ⟨d1, d2⟩ := h3
  subst c3
  subst d2
  apply SIM.of
  rw [tyx_2 h, ndx0_1 (Or.inr h)]
  exact SIV.tru hE d1 c1 ((hT n).2 h) c2 (by omega) (by omega) (Nat.le_refl _)
theorem NOD.n9 (ih : ALLk E Lim k) (H : NOD E stk p (k + 1) 0 n a a1 b b1) (h : gi (vM E) 7 n = 9) : SIM E Lim stk p (k + 1) 0 n a a1 b b1 := by
  obtain ⟨h1, h2, h3, h4, h5, h6, h7⟩ := H
  rw [cdc0_9 h] at h2
  rw [cdm0_9 h] at h3
  rw [flx0_9 h] at h4
  rw [okn0_9 h] at h5
  have := NOD.sim (md := 0) ih (by omega) ⟨h1, h2, h3, h4, h5, h6, h7⟩
  apply SIM.of
  rw [tyx_9 h, ndx0_9 h]
  exact this.v
theorem NOD.n7 (hE : EOKS E) (hS : SYS E) (ih : ALLk E Lim k) (H : NOD E stk p (k + 1) 0 n a a1 b b1) (h : gi (vM E) 7 n = 7) : SIM E Lim stk p (k + 1) 0 n a a1 b b1 := by
  obtain ⟨h1, h2, h3, h4, h5, h6, h7⟩ := H
  rw [cdc0_7 h] at h2
  rw [cdm0_7 h] at h3
  rw [flx0_7 h] at h4
  rw [okn0_7 h] at h5
  obtain ⟨f1, f2⟩ := app_nil h4
  apply SIM.of
  rw [tyx_7 h, ndx0_7 h]
  rcases h2 with ⟨q, c⟩ | ⟨q, a2, c1, c2, c3⟩
  · rcases h3 with ⟨_, d⟩ | ⟨q', _⟩
    · have ht := TYX_is hS h1 d h5 f1 f2
      have := (NOD.sim (md := 0) ih (by omega) ⟨h1, c, d, f1, h5, h6, h7⟩).v
      rw [ht] at this
      exact this
    · exact absurd q q'
  · rcases h3 with ⟨q', _⟩ | ⟨_, b2, d1, d2, d3⟩
    · exact absurd q' q
    · subst c3
      subst d3
      have ht := TYX_is hS h1 d1 h5 f1 f2
      have := (NOD.sim (md := 0) ih (by omega) ⟨h1, c1, d1, f1, h5, by omega, by omega⟩).v
      rw [ht] at this
      exact SIV.one hE this d2 c2 (by omega) (by omega) rfl
theorem stb_sg {sg : Nat} (h : stb sg ≠ 0) : SG2 sg := by
  by_cases q : sg ≤ 50
  · exact sg2_stb h q
  · exact absurd (show stb sg = 0 by
      unfold stb stg
      repeat' split
      all_goals omega) h
theorem NOD.n6 (hE : EOKS E) (hS : SYS E) (ih : ALLk E Lim k) (H : NOD E stk p (k + 1) 0 n a a1 b b1) (h : gi (vM E) 7 n = 6) : SIM E Lim stk p (k + 1) 0 n a a1 b b1 := by
  obtain ⟨h1, h2, h3, h4, h5, h6, h7⟩ := H
  rw [cdc0_6 h] at h2
  rw [cdm0_6 h] at h3
  rw [okn0_6 h] at h5
  have hf2 : FLX (vM E) (eLU E stk) p k 0 (nd (vM E) 8 n) 0 = [] ∧ FLX (vM E) (eLU E stk) p k 0 (nd (vM E) 10 n) 0 = [] := by
    rw [flx0_6 h] at h4
    obtain ⟨f1, f2⟩ := app_nil h4
    refine ⟨f1, ?_⟩
    by_cases q : gi (vM E) 9 n = 61 ∨ gi (vM E) 9 n = 289
    · rw [if_pos q] at f2; exact (app_nil f2).1
    · rw [if_neg q] at f2; exact (app_nil (app_nil f2).2).1
  obtain ⟨a2, a3, c1, c2, ⟨sg, s1, s2, s3⟩, c3⟩ := h2
  obtain ⟨b2, b3, d1, d2, d3, d4⟩ := h3
  subst c3
  subst d4
  have l1 := WLE hS h1 k 0 (nd (vM E) 8 n) 0 (Or.inl (by omega)) h5.1 hf2.1
  have l2 := WLE hS h1 k 0 (nd (vM E) 10 n) 0 (Or.inl (by omega)) h5.2 hf2.2
  have e1 := l1.1 _ _ _ _ c1
  have e2 := l2.1 _ _ _ _ c2
  have e3 := l2.2 _ _ _ _ _ d2
  have v1 := (NOD.sim (md := 0) ih (by omega) ⟨h1, c1, d1, hf2.1, h5.1, by omega, by omega⟩).v
  have v2 := (NOD.sim (md := 0) ih (by omega) ⟨h1, c2, d2, hf2.2, h5.2, by omega, by omega⟩).v
  apply SIM.of
  rw [tyx_6 h, ndx0_6 h, s1]
  rw [s1] at d3
  exact SIV.two hE (stb_sg s2) v1 v2 ⟨e1, e2⟩ ⟨Nat.le_max_left _ _, by rw [Nat.add_comm]; exact Nat.le_max_right _ _⟩ d3 s3 (by omega) (by omega) rfl
theorem NOD.n8 (hE : EOKS E) (hS : SYS E) (ih : ALLk E Lim k) (H : NOD E stk p (k + 1) 0 n a a1 b b1) (h : gi (vM E) 7 n = 8) : SIM E Lim stk p (k + 1) 0 n a a1 b b1 := by
  obtain ⟨h1, h2, h3, h4, h5, h6, h7⟩ := H
  rw [cdc0_8 h] at h2
  rw [cdm0_8 h] at h3
  rw [okn0_8 h] at h5
  rw [flx0_8 h] at h4
  obtain ⟨f123, f4⟩ := app_nil h4
  obtain ⟨f12, f3⟩ := app_nil f123
  obtain ⟨f1, f2⟩ := app_nil f12
  obtain ⟨a2, a3, c1, c2, c3, c4, c5⟩ := h2
  obtain ⟨b2, b3, d1, d2, d3, d4, d5⟩ := h3
  have l1 := WLE hS h1 k 0 (nd (vM E) 8 n) 0 (Or.inl (by omega)) h5.1 (app_nil f1).1
  have l2 := WLE hS h1 k 0 (nd (vM E) 9 n) 0 (Or.inl (by omega)) h5.2.1 f2
  have l3 := WLE hS h1 k 0 (nd (vM E) 10 n) 0 (Or.inl (by omega)) h5.2.2 f3
  have e1 := l1.1 _ _ _ _ c1
  have e2 := l2.1 _ _ _ _ c3
  have e3 := l3.1 _ _ _ _ c5
  have g1 := l1.2 _ _ _ _ _ d1
  have g2 := l2.2 _ _ _ _ _ d3
  have g3 := l3.2 _ _ _ _ _ d5
  have t1 := TYX_is hS h1 d1 h5.1 (app_nil f1).1 (app_nil f1).2
  have t2 := TYX_12 hS h1 k _ d3 h5.2.1 f2
  have t3 := TYX_12 hS h1 k _ d5 h5.2.2 f3
  have n2 : TYX (vM E) (eLU E stk) k (nd (vM E) 9 n) ≠ 0 := by rcases t2 with e | e <;> rw [e] <;> decide
  have n3 : TYX (vM E) (eLU E stk) k (nd (vM E) 10 n) ≠ 0 := by rcases t3 with e | e <;> rw [e] <;> decide
  rw [if_pos n2] at f4
  have e := (misT_n f4).elim (fun c => absurd c n3) id
  have v1 := (NOD.sim (md := 0) ih (by omega) ⟨h1, c1, d1, (app_nil f1).1, h5.1, by omega, by omega⟩).v
  rw [t1] at v1
  have v2 := (NOD.sim (md := 0) ih (by omega) ⟨h1, c3, d3, f2, h5.2.1, by omega, by omega⟩).v
  have v3 := (NOD.sim (md := 0) ih (by omega) ⟨h1, c5, d5, f3, h5.2.2, h6, h7⟩).v
  rw [e] at v3
  apply SIM.of
  rw [tyx_8 h, if_neg (fun c => c.2.2 e.symm), if_pos n2, ndx0_8 h]
  refine SIV_g.mpr (SIG.if3 hE PV_pos (SIV_g.mp v1) (SIV_g.mp v2) (SIV_g.mp v3) ⟨e1, e2, e3, h6⟩ ⟨by omega, by omega, by omega⟩ ⟨Nat.le_max_left _ _, ?_, ?_⟩ c2 c4 d2 d4)
  · exact Nat.le_trans (Nat.le_max_left _ _) (Nat.le_max_right _ _)
  · exact Nat.le_trans (Nat.le_max_right _ _) (Nat.le_max_right _ _)
end NZ
