/-! NODES WITHOUT FAULTS -/
section NF
variable {E : SENV} {stk : List Nat} {lu : Nat → Nat} {fM fA : Wd} {cur lev k n f b b' y l tk : Nat} {g : Wd}
theorem app_nil {α : Type} {a b : List α} (h : a ++ b = []) : a = [] ∧ b = [] := List.append_eq_nil_iff.mp h
theorem notD_n (h : notD l tk = []) : l ≠ 0 := fun q => by
  unfold notD at h
  rw [if_pos q] at h
  exact absurd h (by simp)
/-- no formal without SPEC -/
def NO0 (fM : Wd) (l : Nat) : Prop := l ≠ 0 → ¬ FO fM (l - 1) 0
theorem misS_n (h0 : NO0 fM l) (hl : l ≠ 0) (h : misS fM l tk = []) : False := by
  unfold misS at h
  rw [if_neg (h0 hl)] at h
  exact absurd h (by simp)
theorem flY_n (h0 : NO0 fM l) (h : flY fM l tk = []) : l ≠ 0 ∧ ((gi fM 19 (l - 1) = 1 ∨ FO fM (l - 1) 1) ∨ ((gi fM 19 (l - 1) = 3 ∨ FO fM (l - 1) 3) ∧ gi fM 20 (l - 1) ≠ 0 ∧ (gi fM 19 (l - 1) = 3 → gi fM 31 (gi fM 24 (l - 1)).toNatClampNeg ≤ 0))) := by
  unfold flY at h
  by_cases q : l = 0
  · rw [if_pos q] at h; exact absurd h (by simp)
  rw [if_neg q] at h
  refine ⟨q, ?_⟩
  by_cases q1 : gi fM 19 (l - 1) = 1 ∨ FO fM (l - 1) 1
  · exact Or.inl q1
  rw [if_neg q1] at h
  by_cases q3 : gi fM 19 (l - 1) = 3 ∨ FO fM (l - 1) 3
  · rw [if_pos q3] at h
    by_cases q4 : gi fM 20 (l - 1) = 0
    · rw [if_pos q4] at h; exact absurd h (by simp)
    rw [if_neg q4] at h
    refine Or.inr ⟨q3, q4, fun q5 => ?_⟩
    by_cases q6 : gi fM 31 (gi fM 24 (l - 1)).toNatClampNeg ≤ 0
    · exact q6
    · rw [if_pos ⟨q5, q6⟩] at h; exact absurd h (by simp)
  · rw [if_neg q3, if_neg (h0 q)] at h; exact absurd h (by simp)
theorem elL_n (h0 : NO0 fM (lu (nd fM 12 n))) {xs : List Nat} (h : elL fM lu cur k n xs = []) : lu (nd fM 12 n) ≠ 0 ∧ (∀ x ∈ xs, FLX fM lu cur k 0 x 0 = [] ∧ misT (TYX fM lu k x) 1 (nd fM 12 x) = []) ∧ (gi fM 19 (lu (nd fM 12 n) - 1) = 2 ∧ gi fM 24 (lu (nd fM 12 n) - 1) = gi fM 9 n ∨ FO fM (lu (nd fM 12 n) - 1) 2 ∧ gi fM 9 n ≤ 3) := by
  unfold elL at h
  obtain ⟨h12, h3⟩ := app_nil h
  obtain ⟨h1, h2⟩ := app_nil h12
  have q := notD_n h1
  refine ⟨q, fun x hx => app_nil (List.flatMap_eq_nil_iff.mp h2 x hx), ?_⟩
  rw [if_neg q] at h3
  by_cases q2 : gi fM 19 (lu (nd fM 12 n) - 1) = 2 ∨ FO fM (lu (nd fM 12 n) - 1) 2
  · rw [if_pos q2] at h3
    by_cases q3 : (gi fM 19 (lu (nd fM 12 n) - 1) = 2 ∧ gi fM 24 (lu (nd fM 12 n) - 1) ≠ gi fM 9 n) ∨ (FO fM (lu (nd fM 12 n) - 1) 2 ∧ ¬ gi fM 9 n ≤ 3)
    · rw [if_pos q3] at h3; exact absurd h3 (by simp)
    · rcases q2 with q2 | q2
      · refine Or.inl ⟨q2, ?_⟩
        by_cases e : gi fM 24 (lu (nd fM 12 n) - 1) = gi fM 9 n
        · exact e
        · exact absurd (Or.inl ⟨q2, e⟩) q3
      · refine Or.inr ⟨q2, ?_⟩
        by_cases e : gi fM 9 n ≤ 3
        · exact e
        · exact absurd (Or.inr ⟨q2, e⟩) q3
  · rw [if_neg q2] at h3
    exact (misS_n h0 q h3).elim
theorem flx5_n (h0 : NO0 fM (lu (nd fM 12 n))) {xs : List Nat} (h7 : gi fM 7 n = 5) (hx : nxL fM k (gi fM 8 n) = xs) (h : FLX fM lu cur (k + 1) 0 n f = []) : lu (nd fM 12 n) ≠ 0 ∧ gi fM 19 (lu (nd fM 12 n) - 1) = 3 ∧ (f = 0 → gi fM 20 (lu (nd fM 12 n) - 1) ≠ 0) ∧ gi fM 31 (nd fM 24 (lu (nd fM 12 n) - 1)) = gi fM 9 n ∧ ∀ xi ∈ xs.zipIdx, (if xi.2 < nd fM 31 (nd fM 24 (lu (nd fM 12 n) - 1)) then FLX fM lu cur k 5 xi.1 (nd fM 32 (nd fM 24 (lu (nd fM 12 n) - 1)) + xi.2) else FLX fM lu cur k 4 xi.1 0) = [] := by
  rw [flx0_5 h7 hx] at h
  obtain ⟨h1, h2⟩ := app_nil h
  have q := notD_n h1
  by_cases q3 : gi fM 19 (lu (nd fM 12 n) - 1) = 3
  · rw [if_neg (fun c => c.elim q (fun c => c q3))] at h2
    obtain ⟨h34, h5⟩ := app_nil h2
    obtain ⟨h3, h4⟩ := app_nil h34
    refine ⟨q, q3, fun e1 e2 => ?_, ?_, fun xi hxi => List.flatMap_eq_nil_iff.mp h5 xi hxi⟩
    · rw [if_pos ⟨e1, e2⟩] at h3; exact absurd h3 (by simp)
    · by_cases e : gi fM 31 (nd fM 24 (lu (nd fM 12 n) - 1)) = gi fM 9 n
      · exact e
      · rw [if_pos e] at h4; exact absurd h4 (by simp)
  · rw [if_pos (Or.inr q3)] at h2
    obtain ⟨_, h3⟩ := app_nil h2
    rw [if_neg q] at h3
    by_cases q5 : FO fM (lu (nd fM 12 n) - 1) 3
    · rw [if_pos q5] at h3
      exact absurd (app_nil h3).1 (by simp)
    · rw [if_neg q5] at h3
      exact (misS_n h0 q h3).elim
theorem flx13_n (h0 : NO0 fM (lu (nd fM 12 n))) (h7 : gi fM 7 n = 3) (h : FLX fM lu cur (k + 1) 1 n 0 = []) : lu (nd fM 12 n) ≠ 0 ∧ (gi fM 19 (lu (nd fM 12 n) - 1) = 1 ∨ FO fM (lu (nd fM 12 n) - 1) 1 ∨ gi fM 19 (lu (nd fM 12 n) - 1) = 3 ∧ gi fM 20 (lu (nd fM 12 n) - 1) ≠ 0 ∧ inPr fM (gi fM 24 (lu (nd fM 12 n) - 1)) 9000 (Int32.ofNat cur) = true) := by
  rw [flx1_3 h7] at h
  obtain ⟨h1, h2⟩ := app_nil h
  have q := notD_n h1
  refine ⟨q, ?_⟩
  by_cases q1 : gi fM 19 (lu (nd fM 12 n) - 1) = 1
  · exact Or.inl q1
  by_cases q2 : FO fM (lu (nd fM 12 n) - 1) 1
  · exact Or.inr (Or.inl q2)
  rw [if_neg (fun c => c.elim q (fun c => c.elim q1 q2))] at h2
  by_cases q3 : (0 : Nat) = 0 ∧ gi fM 19 (lu (nd fM 12 n) - 1) = 3 ∧ gi fM 20 (lu (nd fM 12 n) - 1) ≠ 0 ∧ inPr fM (gi fM 24 (lu (nd fM 12 n) - 1)) 9000 (Int32.ofNat cur) = true
  · exact Or.inr (Or.inr q3.2)
  · rw [if_neg q3] at h2
    exact (misS_n h0 q h2).elim
theorem flx23_n (h0 : NO0 fM (lu (nd fM 12 n))) (h7 : gi fM 7 n = 3) (h : FLX fM lu cur (k + 1) 2 n f = []) : lu (nd fM 12 n) ≠ 0 ∧ (gi fM 19 (lu (nd fM 12 n) - 1) = 4 ∨ FO fM (lu (nd fM 12 n) - 1) 4) := by
  rw [flx2_3 h7] at h
  obtain ⟨h1, h2⟩ := app_nil h
  have q := notD_n h1
  refine ⟨q, ?_⟩
  by_cases q1 : gi fM 19 (lu (nd fM 12 n) - 1) = 4 ∨ FO fM (lu (nd fM 12 n) - 1) 4
  · exact q1
  · rw [if_neg (fun c => c.elim q q1)] at h2
    exact (misS_n h0 q h2).elim
theorem flx24_n (h0 : NO0 fM (lu (nd fM 12 n))) (h7 : gi fM 7 n = 4) (h : FLX fM lu cur (k + 1) 2 n f = []) : gi fM 9 n = 1 ∧ lu (nd fM 12 n) ≠ 0 ∧ FLX fM lu cur k 0 (nd fM 8 n) 0 = [] ∧ misT (TYX fM lu k (nd fM 8 n)) 1 (nd fM 12 (nd fM 8 n)) = [] ∧ (gi fM 19 (lu (nd fM 12 n) - 1) = 5 ∨ FO fM (lu (nd fM 12 n) - 1) 5) := by
  by_cases h9 : gi fM 9 n = 1
  · rw [flx2_4 h7 h9] at h
    obtain ⟨h12, h3⟩ := app_nil h
    obtain ⟨h1, h2⟩ := app_nil h12
    have q := notD_n h1
    refine ⟨h9, q, (app_nil h2).1, (app_nil h2).2, ?_⟩
    by_cases q1 : gi fM 19 (lu (nd fM 12 n) - 1) = 5 ∨ FO fM (lu (nd fM 12 n) - 1) 5
    · exact q1
    · rw [if_neg (fun c => c.elim q q1)] at h3
      exact (misS_n h0 q h3).elim
  · rw [flx2_o (by rw [h7]; decide) (by rw [h7]; decide) (by rw [h7]; decide) (fun c => h9 c.2)] at h
    exact absurd (app_nil h).1 (by simp)
theorem SYS.nm (hS : SYS E) (hk : SCE E stk) {tk y : Nat} (hl : eLU E stk tk = y + 1) : y < eNo E 5 2 := by
  obtain ⟨s, hs, hy⟩ := lk_in (f := fun i => E.2.2.2.1 (E.2.2.2.2 i)) (SL := E.2.2.1 0) (x := E.2.2.2.1 tk) (stk := stk) (fun q => absurd (hl.symm.trans q) (by omega))
  obtain ⟨kd, m, C, c1, c2, c3, c4, c5, c6, c7, c8, c9, c10, c11⟩ := hS
  have := (c7 s (by rw [c2]; exact hk s hs) _ hy).1
  have e : lk (fun i => E.2.2.2.1 (E.2.2.2.2 i)) (E.2.2.1 0) (E.2.2.2.1 tk) stk = y + 1 := hl
  rw [e] at this
  omega
theorem SYS.no0 (hS : SYS E) (hk : SCE E stk) : NO0 (vM E) (eLU E stk tk) := fun q h => by
  have := hS.nm hk (tk := tk) (y := eLU E stk tk - 1) (Nat.sub_add_cancel (Nat.pos_of_ne_zero q)).symm
  obtain ⟨kd, m, C, c1, c2, c3, c4, c5, c6, c7, c8, c9, c10, c10', c11⟩ := hS
  exact (c10' _ (Nat.lt_of_lt_of_eq this c1.symm) h.1).1 h.2
/-- TYPES of symbols -/
theorem SYS.t3 (hS : SYS E) (hy : y < eNo E 5 2) : gi (vM E) 20 y = 0 ∨ gi (vM E) 20 y = 1 ∨ gi (vM E) 20 y = 2 := by
  obtain ⟨kd, m, C, c1, c2, c3, c4, c5, c6, c7, c8, c9, c10, c11⟩ := hS
  obtain ⟨_, _, _, _, _, _, ⟨ty, t1, t2⟩, _⟩ := c6 y (by omega)
  rw [t2]
  have : ty = 0 ∨ ty = 1 ∨ ty = 2 := by omega
  rcases this with e | e | e <;> subst e
  · exact Or.inl rfl
  · exact Or.inr (Or.inl rfl)
  · exact Or.inr (Or.inr rfl)
theorem SYS.tn (hS : SYS E) (hy : y < eNo E 5 2) (h : gi (vM E) 19 y = 1 ∨ FO (vM E) y 1 ∨ gi (vM E) 19 y = 2 ∨ FO (vM E) y 2) : gi (vM E) 20 y ≠ 0 := by
  obtain ⟨kd, m, C, c1, c2, c3, c4, c5, c6, c7, c8, c9, c10, c10', c11⟩ := hS
  have e10 := c10' y (by omega)
  obtain ⟨_, _, _, _, _, _, _, _, hK⟩ := c6 y (by omega)
  rcases h with h | h | h | h
  · rcases hK with k | k | k | k | k | k
    · exact k.2.2.1
    all_goals exact absurd (h.symm.trans k.1) (by decide)
  · rcases hK with k | k | k | k | k | k
    · exact absurd (h.1.symm.trans k.1) (by decide)
    · exact absurd (h.1.symm.trans k.1) (by decide)
    · exact absurd (h.1.symm.trans k.1) (by decide)
    · exact absurd (h.1.symm.trans k.1) (by decide)
    · exact absurd (h.1.symm.trans k.1) (by decide)
    · exact k.2.2.2.2.2.1 (Or.inl h.2)
  · rcases hK with k | k | k | k | k | k
    · exact absurd (h.symm.trans k.1) (by decide)
    · exact k.2.2.2.1
    all_goals exact absurd (h.symm.trans k.1) (by decide)
  · exact (e10 h.1).2 h.2
theorem misT_n {a w : Int32} (h : misT a w tk = []) : a = 0 ∨ a = w := by
  unfold misT at h
  by_cases q : a ≠ 0 ∧ a ≠ w
  · rw [if_pos q] at h; exact absurd h (by simp)
  · by_cases z : a = 0
    · exact Or.inl z
    · by_cases z2 : a = w
      · exact Or.inr z2
      · exact absurd ⟨z, z2⟩ q
/-- a node that's an EXPR without faults has a TYPE -/
theorem TYX_12 (hS : SYS E) (hk : SCE E stk) : ∀ (k n : Nat) {lev cur f ac b b' : Nat} {g : Wd}, CDM (vM E) (eLU E stk) lev k 0 n f ac b b' g → OKN (vM E) k 0 n → FLX (vM E) (eLU E stk) cur k 0 n 0 = [] → TYX (vM E) (eLU E stk) k n = 1 ∨ TYX (vM E) (eLU E stk) k n = 2 := by
  intro k
  induction k with
  | zero => exact fun n _ _ _ _ _ _ _ h => h.elim
  | succ k ih =>
    intro n lev cur f ac b b' g hc ho hf
    have hn : eLU E stk (nd (vM E) 12 n) ≠ 0 → eLU E stk (nd (vM E) 12 n) - 1 < eNo E 5 2 := fun q => hS.nm hk (Nat.sub_add_cancel (Nat.pos_of_ne_zero q)).symm
    have h0 : NO0 (vM E) (eLU E stk (nd (vM E) 12 n)) := hS.no0 hk
    rcases okn0_k ho with h | h | h | h | h | h | h | h | h
    · exact Or.inl (tyx_1 h)
    · exact Or.inr (tyx_2 h)
    · rw [cdm0_9 h] at hc
      rw [okn0_9 h] at ho
      rw [flx0_9 h] at hf
      rw [tyx_9 h]
      exact ih _ hc ho hf
    · rw [flx0_3 h] at hf
      obtain ⟨q, hq⟩ := flY_n h0 hf
      rw [tyx_3 h]
      unfold tyY
      rw [if_neg q]
      rcases hq with hq | hq
      · rw [if_pos (hq.elim Or.inl (fun c => Or.inr (Or.inl c)))]
        exact (hS.t3 (hn q)).elim (fun c => absurd c (hS.tn (hn q) (hq.elim Or.inl (fun c => Or.inr (Or.inl c))))) id
      · rw [if_pos (Or.inr (Or.inr hq.1))]
        exact (hS.t3 (hn q)).elim (fun c => absurd c hq.2.1) id
    · rw [flx0_4 h rfl] at hf
      obtain ⟨q, _, hq⟩ := elL_n h0 hf
      rw [tyx_4 h]
      unfold tyE
      rw [if_neg q, if_pos (hq.elim (fun c => Or.inl c.1) (fun c => Or.inr c.1))]
      exact (hS.t3 (hn q)).elim (fun c => absurd c (hS.tn (hn q) (hq.elim (fun c => Or.inr (Or.inr (Or.inl c.1))) (fun c => Or.inr (Or.inr (Or.inr c.1)))))) id
    · obtain ⟨q, q3, q4, _⟩ := flx5_n h0 h rfl hf
      rw [tyx_5 h]
      unfold tyC
      rw [if_neg q, if_pos (Or.inl q3)]
      exact (hS.t3 (hn q)).elim (fun c => absurd c (q4 rfl)) id
    · rw [cdm0_8 h] at hc
      rw [okn0_8 h] at ho
      rw [flx0_8 h] at hf
      obtain ⟨b1, b2, c1, c2, c3, c4, c5⟩ := hc
      obtain ⟨f123, f4⟩ := app_nil hf
      obtain ⟨f12, f3⟩ := app_nil f123
      obtain ⟨f1, f2⟩ := app_nil f12
      have t2 := ih _ c3 ho.2.1 f2
      have t3 := ih _ c5 ho.2.2 f3
      have n2 : TYX (vM E) (eLU E stk) k (nd (vM E) 9 n) ≠ 0 := by rcases t2 with e | e <;> rw [e] <;> decide
      have n3 : TYX (vM E) (eLU E stk) k (nd (vM E) 10 n) ≠ 0 := by rcases t3 with e | e <;> rw [e] <;> decide
      rw [if_pos n2] at f4
      have e := (misT_n f4).elim (fun c => absurd c n3) id
      rw [tyx_8 h, if_neg (fun c => c.2.2 e.symm), if_pos n2]
      exact t2
    · rw [tyx_7 h]
      by_cases q : gi (vM E) 9 n = 281
      · rw [if_pos q]; exact Or.inr rfl
      · rw [if_neg q]; exact Or.inl rfl
    · rw [tyx_6 h]
      unfold sgY
      by_cases q : gi (vM E) 9 n = 43 ∨ gi (vM E) 9 n = 45 ∨ gi (vM E) 9 n = 42 ∨ gi (vM E) 9 n = 282 ∨ gi (vM E) 9 n = 283 ∨ gi (vM E) 9 n = 94
      · rw [if_pos q]; exact Or.inl rfl
      · rw [if_neg q]; exact Or.inr rfl
/-- .. and if it must be of a TYPE, it is -/
theorem TYX_is (hS : SYS E) (hk : SCE E stk) {w : Int32} {k n lev cur f ac b b' tk : Nat} {g : Wd} (hc : CDM (vM E) (eLU E stk) lev k 0 n f ac b b' g) (ho : OKN (vM E) k 0 n) (hf : FLX (vM E) (eLU E stk) cur k 0 n 0 = []) (hm : misT (TYX (vM E) (eLU E stk) k n) w tk = []) : TYX (vM E) (eLU E stk) k n = w :=
  (misT_n hm).elim (fun c => by
    rcases TYX_12 hS hk k n hc ho hf with e | e <;> rw [e] at c <;> exact absurd c (by decide)) id
end NF
