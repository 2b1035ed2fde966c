/-! WORDS AND CODES OF A NODE GO ON -/
section MO
variable {E : SENV} {stk : List Nat} {cur : Nat}
theorem okn01 {fM : Wd} : ∀ {k n : Nat}, OKN fM k 0 n → gi fM 7 n = 3 ∨ gi fM 7 n = 4 → OKN fM k 1 n := by
  intro k n ho h
  cases k with
  | zero => exact trivial
  | succ k =>
    rcases h with h | h
    · rw [OKN]
      try dsimp only
      rw [if_neg (by decide), if_pos rfl, if_neg (by rw [h]; decide)]
      exact h
    · rw [okn0_4 h] at ho
      rw [okn1_4 h]
      exact ho
/-- what fits as an EXPR and has no faults as an AIM fits as one -/
theorem okn02 {lu : Nat → Nat} {fM : Wd} : ∀ {k n f : Nat}, OKN fM k 0 n → FLX fM lu cur k 2 n f = [] → OKN fM k 2 n := by
  intro k
  induction k with
  | zero => exact fun _ _ => trivial
  | succ k ih =>
    intro n f ho hf
    rw [FLX] at hf
    try dsimp only at hf
    rw [if_neg (by decide), if_neg (by decide), if_pos rfl] at hf
    by_cases h9 : gi fM 7 n = 9
    · rw [if_pos h9] at hf
      rw [okn0_9 h9] at ho
      rw [okn2_9 h9]
      exact ih ho hf
    rw [if_neg h9] at hf
    by_cases h8 : gi fM 7 n = 8
    · rw [if_pos h8] at hf
      rw [okn0_8 h8] at ho
      rw [okn2_8 h8]
      obtain ⟨f1, f2⟩ := app_nil hf
      obtain ⟨f3, f4⟩ := app_nil f1
      exact ⟨ho.1, ih ho.2.1 f4, ih ho.2.2 f2⟩
    rw [if_neg h8] at hf
    by_cases h3 : gi fM 7 n = 3
    · rw [OKN]
      try dsimp only
      rw [if_neg (by decide), if_neg (by decide), if_neg (by decide), if_neg h9, if_neg h8, if_neg (by rw [h3]; decide)]
      exact h3
    rw [if_neg h3] at hf
    by_cases h4 : gi fM 7 n = 4 ∧ gi fM 9 n = 1
    · rw [okn0_4 h4.1] at ho
      rw [okn2_4 h4.1]
      obtain ⟨o1, o2, o3⟩ := ho
      rw [h4.2] at o1
      cases k with
      | zero => exact trivial
      | succ k =>
        have hl : (nxL fM (k + 1) (gi fM 8 n)).length = 1 := ((eq_iN (a := 1) (by omega) (by omega)).mp o1).symm
        refine o3 _ ?_
        unfold nxL at hl ⊢
        by_cases z : gi fM 8 n < 0
        · rw [if_pos z] at hl
          exact absurd hl (by simp)
        · rw [if_neg z]
          exact List.mem_cons_self
    · rw [if_neg h4] at hf
      exact absurd hf (by simp)
theorem ndx02 {lu : Nat → Nat} {fM : Wd} : ∀ {k n f : Nat}, OKN fM k 0 n → FLX fM lu cur k 2 n f = [] → NDX fM k 2 n ≤ max 3 (NDX fM k 0 n) := by
  intro k
  induction k with
  | zero => exact fun _ _ => Nat.zero_le _
  | succ k ih =>
    intro n f ho hf
    rw [FLX] at hf
    try dsimp only at hf
    rw [if_neg (by decide), if_neg (by decide), if_pos rfl] at hf
    rw [NDX, NDX]
    try dsimp only
    rw [if_neg (show ¬ ((2 : Nat) = 0) by decide), if_neg (show ¬ ((2 : Nat) = 1) by decide), if_pos (show (0 : Nat) = 0 from rfl)]
    by_cases h9 : gi fM 7 n = 9
    · rw [if_pos h9] at hf
      rw [okn0_9 h9] at ho
      rw [if_pos h9, if_neg (by rw [h9]; decide), if_pos h9]
      exact ih ho hf
    rw [if_neg h9] at hf
    by_cases h8 : gi fM 7 n = 8
    · rw [if_pos h8] at hf
      rw [okn0_8 h8] at ho
      obtain ⟨f1, f2⟩ := app_nil hf
      obtain ⟨f3, f4⟩ := app_nil f1
      rw [if_neg h9, if_pos h8, if_neg (by rw [h8]; decide), if_neg h9, if_neg (by rw [h8]; decide), if_neg (by rw [h8]; decide), if_neg (by rw [h8]; decide), if_pos h8]
      have i1 := ih ho.2.1 f4
      have i2 := ih ho.2.2 f2
      omega
    rw [if_neg h8] at hf
    by_cases h3 : gi fM 7 n = 3
    · rw [if_neg h9, if_neg h8, if_pos h3]
      omega
    rw [if_neg h3] at hf
    by_cases h4 : gi fM 7 n = 4 ∧ gi fM 9 n = 1
    · rw [if_neg h9, if_neg h8, if_neg h3, if_neg (by rw [h4.1]; decide), if_neg h9, if_neg h3, if_pos h4.1]
      rw [okn0_4 h4.1] at ho
      obtain ⟨o1, o2, o3⟩ := ho
      rw [h4.2] at o1
      cases k with
      | zero =>
        show max 3 0 ≤ _
        omega
      | succ k =>
        have hl : (nxL fM (k + 1) (gi fM 8 n)).length = 1 := ((eq_iN (a := 1) (by omega) (by omega)).mp o1).symm
        have hm : nd fM 8 n ∈ nxL fM (k + 1) (gi fM 8 n) := by
          unfold nxL at hl ⊢
          by_cases z : gi fM 8 n < 0
          · rw [if_pos z] at hl
            exact absurd hl (by simp)
          · rw [if_neg z]
            exact List.mem_cons_self
        have fm : ∀ (l : List Nat) (m : Nat), m ≤ l.foldl (fun m x => max m (4 + NDX fM (k + 1) 0 x)) m ∧ ∀ x ∈ l, 4 + NDX fM (k + 1) 0 x ≤ l.foldl (fun m x => max m (4 + NDX fM (k + 1) 0 x)) m := by
          intro l
          induction l with
          | nil => exact fun m => ⟨Nat.le_refl _, fun x hx => absurd hx (by simp)⟩
          | cons y r ihl =>
            intro m
            obtain ⟨q1, q2⟩ := ihl (max m (4 + NDX fM (k + 1) 0 y))
            refine ⟨Nat.le_trans (Nat.le_max_left _ _) q1, fun x hx => ?_⟩
            rcases List.mem_cons.mp hx with rfl | hx
            · exact Nat.le_trans (Nat.le_max_right _ _) q1
            · exact q2 x hx
        have := (fm (nxL fM (k + 1) (gi fM 8 n)) 3).2 _ hm
        have := (fm (nxL fM (k + 1) (gi fM 8 n)) 3).1
        omega
    · rw [if_neg h4] at hf
      exact absurd hf (by simp)
theorem flx5_t {lu : Nat → Nat} {fM : Wd} {f n : Nat} (h1 : gi fM 24 f = 1) : ∀ {k : Nat}, FLX fM lu cur (k + 1) 5 n f = [] → FLX fM lu cur k 0 n 0 = [] ∧ ((gi fM 7 n = 3 ∧ lu (nd fM 12 n) ≠ 0 ∧ (FO fM (lu (nd fM 12 n) - 1) 1 ∨ gi fM 19 (lu (nd fM 12 n) - 1) = 1)) ∨ gi fM 7 n = 4 → FLX fM lu cur k 1 n 0 = []) := by
  intro k h
  cases k with
  | zero => exact ⟨rfl, fun _ => rfl⟩
  | succ k => exact flx5_s h1 h
theorem WLE (hS : SYS E) (hk : SCE E stk) : ∀ (k md n f : Nat), MD5 E md f → OKN (vM E) k md n → FLX (vM E) (eLU E stk) cur k md n f = [] → (∀ (lev a a' : Nat) (g : Wd), CDC (vM E) (vA E) (eLU E stk) lev k md n f a a' g → a ≤ a') ∧ (∀ (lev ac b b' : Nat) (g : Wd), CDM (vM E) (eLU E stk) lev k md n f ac b b' g → b ≤ b') := by
  intro k
  induction k with
  | zero => exact fun _ _ _ _ _ _ => ⟨fun _ _ _ _ h => h.elim, fun _ _ _ _ _ h => h.elim⟩
  | succ k ih =>
    intro md n f hmd ho hf
    have h0 : NO0 (vM E) (eLU E stk (nd (vM E) 12 n)) := hS.no0 hk
    have m0 : MD5 E 0 0 := Or.inl (by omega)
    have m2 : MD5 E 2 0 := Or.inl (by omega)
    have m1 : MD5 E 1 0 := Or.inl (by omega)
    have elc : gi (vM E) 7 n = 4 → elL (vM E) (eLU E stk) cur k n (nxL (vM E) k (gi (vM E) 8 n)) = [] → (∀ x ∈ nxL (vM E) k (gi (vM E) 8 n), OKN (vM E) k 0 x) → (∀ (lev a a' : Nat) (g : Wd), elCA (vM E) (vA E) (eLU E stk) lev k n (nxL (vM E) k (gi (vM E) 8 n)) a a' g → a ≤ a') ∧ (∀ (lev b b' : Nat) (g : Wd), elCMx (vM E) (eLU E stk) lev k n (nxL (vM E) k (gi (vM E) 8 n)) b b' g → b ≤ b') := by
      intro h hfl hok
      obtain ⟨_, hx, _⟩ := elL_n h0 hfl
      refine ⟨fun lev a a' g hc => ?_, fun lev b b' g hc => ?_⟩
      · obtain ⟨b0, b1, c1, c2, c3, c4⟩ := hc
        have := puC_le c1
        have := rwM_le _ _ _ _ (fun q x hxq c c' hc => (ih 0 x 0 m0 (hok x (List.mem_of_getElem? hxq)) (hx x (List.mem_of_getElem? hxq)).1).1 _ _ _ _ hc) c2
        omega
      · obtain ⟨b1, c1, c2⟩ := hc
        have := rwM_le _ _ _ _ (fun q x hxq c c' hc => (ih 0 x 0 m0 (hok x (List.mem_of_getElem? hxq)) (hx x (List.mem_of_getElem? hxq)).1).2 _ _ _ _ _ hc) c1
        have := cdE_le c2
        omega
    have hmd' := hmd
    have hcs : md = 0 ∨ md = 1 ∨ md = 2 ∨ md = 5 := by rcases hmd with h | h <;> omega
    rcases hcs with hm | hm | hm | hm <;> subst hm
    · rcases okn0_k ho with h | h | h | h | h | h | h | h | h
      · exact ⟨fun lev a a' g hc => by rw [cdc0_1 h] at hc; omega, fun lev ac b b' g hc => by rw [cdm0_1 h] at hc; omega⟩
      · exact ⟨fun lev a a' g hc => by rw [cdc0_2 h] at hc; omega, fun lev ac b b' g hc => by rw [cdm0_2 h] at hc; omega⟩
      · rw [okn0_9 h] at ho
        rw [flx0_9 h] at hf
        obtain ⟨e1, e2⟩ := ih 0 _ 0 m0 ho hf
        exact ⟨fun lev a a' g hc => by rw [cdc0_9 h] at hc; exact e1 _ _ _ _ hc, fun lev ac b b' g hc => by rw [cdm0_9 h] at hc; exact e2 _ _ _ _ _ hc⟩
      · refine ⟨fun lev a a' g hc => ?_, fun lev ac b b' g hc => by rw [cdm0_3 h] at hc; exact cdY_le hc⟩
        rw [cdc0_3 h] at hc
        by_cases q : gi (vA E) 14 (eLU E stk (nd (vM E) 12 n)) = 3
        · rw [if_pos q] at hc; omega
        · rw [if_neg q] at hc; exact vaC_le hc
      · rw [okn0_4 h] at ho
        rw [flx0_4 h rfl] at hf
        obtain ⟨e1, e2⟩ := elc h hf ho.2.2
        refine ⟨fun lev a a' g hc => ?_, fun lev ac b b' g hc => ?_⟩
        · rw [cdc0_4 h rfl] at hc
          obtain ⟨b1, c1, c2, c3⟩ := hc
          have := e1 _ _ _ _ c1
          omega
        · rw [cdm0_4 h rfl] at hc
          obtain ⟨b1, c1, c2, c3⟩ := hc
          have := e2 _ _ _ _ c1
          omega
      · obtain ⟨y, p, nf, ff, a1, a2, a3, a4, a5, a6, a7, a8, a9⟩ := act_n hS hk h ho hf
        refine ⟨fun lev a a' g hc => ?_, fun lev ac b b' g hc => ?_⟩
        · rw [cdc0_5 h rfl, a1, Nat.add_sub_cancel, a5.2.2.2.1, a5.2.2.2.2.2.2.2] at hc
          obtain ⟨c1, b1, c2, c3, c4, c5⟩ := hc a3
          have := rwM_le _ _ _ _ (fun q x hx c c' hc => by
            rw [Nat.zero_add] at hc
            exact (ih 5 x (ff + q) (a9 q x hx).1 (a9 q x hx).2.1 (a9 q x hx).2.2).1 _ _ _ _ hc) c2
          omega
        · rw [cdm0_5 h rfl, a1, Nat.add_sub_cancel, a5.2.2.2.1, a5.2.2.2.2.2.2.2] at hc
          rcases hc with ⟨c, _⟩ | ⟨_, s, a0, b1, _, _, c2, c3, c4, _⟩
          · exact absurd (a3.symm.trans c.1) (by decide)
          · have := rwM_le _ _ _ _ (fun q x hx c c' hc => by
              rw [Nat.zero_add] at hc
              exact (ih 5 x (ff + q) (a9 q x hx).1 (a9 q x hx).2.1 (a9 q x hx).2.2).2 _ _ _ _ _ hc) c2
            omega
      · rw [okn0_8 h] at ho
        rw [flx0_8 h] at hf
        obtain ⟨f123, f4⟩ := app_nil hf
        obtain ⟨f12, f3⟩ := app_nil f123
        obtain ⟨f1, f2⟩ := app_nil f12
        have i1 := ih 0 _ 0 m0 ho.1 (app_nil f1).1
        have i2 := ih 0 _ 0 m0 ho.2.1 f2
        have i3 := ih 0 _ 0 m0 ho.2.2 f3
        refine ⟨fun lev a a' g hc => ?_, fun lev ac b b' g hc => ?_⟩
        · rw [cdc0_8 h] at hc
          obtain ⟨b1, b2, c1, c2, c3, c4, c5⟩ := hc
          have := i1.1 _ _ _ _ c1
          have := i2.1 _ _ _ _ c3
          have := i3.1 _ _ _ _ c5
          omega
        · rw [cdm0_8 h] at hc
          obtain ⟨b1, b2, c1, c2, c3, c4, c5⟩ := hc
          have := i1.2 _ _ _ _ _ c1
          have := i2.2 _ _ _ _ _ c3
          have := i3.2 _ _ _ _ _ c5
          omega
      · rw [okn0_7 h] at ho
        rw [flx0_7 h] at hf
        have i1 := ih 0 _ 0 m0 ho (app_nil hf).1
        refine ⟨fun lev a a' g hc => ?_, fun lev ac b b' g hc => ?_⟩
        · rw [cdc0_7 h] at hc
          rcases hc with ⟨_, c⟩ | ⟨_, b1, c, _, c2⟩
          · exact i1.1 _ _ _ _ c
          · have := i1.1 _ _ _ _ c
            omega
        · rw [cdm0_7 h] at hc
          rcases hc with ⟨_, c⟩ | ⟨_, b1, c, _, c2⟩
          · exact i1.2 _ _ _ _ _ c
          · have := i1.2 _ _ _ _ _ c
            omega
      · rw [okn0_6 h] at ho
        have hf2 : FLX (vM E) (eLU E stk) cur k 0 (nd (vM E) 8 n) 0 = [] ∧ FLX (vM E) (eLU E stk) cur k 0 (nd (vM E) 10 n) 0 = [] := by
          rw [flx0_6 h] at hf
          obtain ⟨f1, f2⟩ := app_nil hf
          refine ⟨f1, ?_⟩
          by_cases q : gi (vM E) 9 n = 61 ∨ gi (vM E) 9 n = 289
          · rw [if_pos q] at f2; exact (app_nil f2).1
          · rw [if_neg q] at f2; exact (app_nil (app_nil f2).2).1
        have i1 := ih 0 _ 0 m0 ho.1 hf2.1
        have i2 := ih 0 _ 0 m0 ho.2 hf2.2
        refine ⟨fun lev a a' g hc => ?_, fun lev ac b b' g hc => ?_⟩
        · rw [cdc0_6 h] at hc
          obtain ⟨b1, b2, c1, c2, _, c3⟩ := hc
          have := i1.1 _ _ _ _ c1
          have := i2.1 _ _ _ _ c2
          omega
        · rw [cdm0_6 h] at hc
          obtain ⟨b1, b2, c1, c2, _, c3⟩ := hc
          have := i1.2 _ _ _ _ _ c1
          have := i2.2 _ _ _ _ _ c2
          omega
    · rcases okn1_k ho with h | h
      · rw [okn1_4 h] at ho
        rw [flx1_4 h rfl] at hf
        obtain ⟨e1, e2⟩ := elc h hf ho.2.2
        exact ⟨fun lev a a' g hc => by rw [cdc1_4 h rfl] at hc; exact e1 _ _ _ _ hc, fun lev ac b b' g hc => by rw [cdm1_4 h rfl] at hc; exact e2 _ _ _ _ hc⟩
      · refine ⟨fun lev a a' g hc => ?_, fun lev ac b b' g hc => by rw [cdm1_3 h] at hc; exact cdL_le hc⟩
        rw [cdc1_3 h] at hc
        by_cases q : gi (vA E) 14 (eLU E stk (nd (vM E) 12 n)) = 3
        · rw [if_pos q] at hc; omega
        · rw [if_neg q] at hc; exact plC_le hc
    · rcases okn2_k ho with h | h | h | h
      · rw [okn2_9 h] at ho
        rw [flx2_9 h] at hf
        obtain ⟨e1, e2⟩ := ih 2 _ 0 m2 ho hf
        exact ⟨fun lev a a' g hc => by rw [cdc2_9 h] at hc; exact e1 _ _ _ _ hc, fun lev ac b b' g hc => by rw [cdm2_9 h] at hc; exact e2 _ _ _ _ _ hc⟩
      · rw [okn2_8 h] at ho
        rw [flx2_8 h] at hf
        obtain ⟨f12, f3⟩ := app_nil hf
        obtain ⟨f1, f2⟩ := app_nil f12
        have i1 := ih 0 _ 0 m0 ho.1 (app_nil f1).1
        have i2 := ih 2 _ 0 m2 ho.2.1 f2
        have i3 := ih 2 _ 0 m2 ho.2.2 f3
        refine ⟨fun lev a a' g hc => ?_, fun lev ac b b' g hc => ?_⟩
        · rw [cdc2_8 h] at hc
          obtain ⟨b1, b2, c1, c2, c3, c4, c5⟩ := hc
          have := i1.1 _ _ _ _ c1
          have := i2.1 _ _ _ _ c3
          have := i3.1 _ _ _ _ c5
          omega
        · rw [cdm2_8 h] at hc
          obtain ⟨b1, b2, c1, c2, c3, c4, c5⟩ := hc
          have := i1.2 _ _ _ _ _ c1
          have := i2.2 _ _ _ _ _ c3
          have := i3.2 _ _ _ _ _ c5
          omega
      · rw [okn2_4 h] at ho
        obtain ⟨f1, f2, f3, f4, f5⟩ := flx24_n h0 h (f := f) hf
        have i1 := ih 0 _ 0 m0 ho f3
        refine ⟨fun lev a a' g hc => ?_, fun lev ac b b' g hc => ?_⟩
        · rw [cdc2_4 h] at hc
          obtain ⟨b1, b2, c1, c2, c3, c4⟩ := hc
          have := i1.1 _ _ _ _ c1
          have := puC_le c2
          omega
        · rw [cdm2_4 h] at hc
          obtain ⟨b1, c1, c2⟩ := hc
          have := i1.2 _ _ _ _ _ c1
          rcases c2 with ⟨_, _, c⟩ | ⟨_, _, c⟩ | ⟨_, c⟩ <;> omega
      · refine ⟨fun lev a a' g hc => ?_, fun lev ac b b' g hc => ?_⟩
        · rw [cdc2_3 h] at hc
          obtain ⟨b1, c1, c2⟩ := hc
          have := puC_le c1
          omega
        · rw [cdm2_3 h] at hc
          rcases hc with ⟨_, _, c⟩ | ⟨_, _, c⟩ | ⟨_, c⟩ <;> omega
    · obtain ⟨hf2, hf6⟩ : f < eNo E 5 2 ∧ gi (vM E) 19 f = 6 := by
        rcases hmd with c | c
        · omega
        · exact c.2
      rw [okn5] at ho
      obtain ⟨o1, o2, o3⟩ := ho f
      obtain ⟨kd, m, C, hY⟩ := hS.sy hf2
      by_cases q1 : gi (vM E) 24 f = 1
      · obtain ⟨s1, s2⟩ := flx5_t q1 hf
        have ho0 : OKN (vM E) k 0 n := by
          by_cases q : gi (vM E) 28 f = 0
          · exact (o2 q1 q).1
          · exact (o1 q1 q).2
        have i0 := ih 0 n 0 m0 ho0 s1
        have i1 : ∀ (h : gi (vM E) 7 n = 3 ∨ gi (vM E) 7 n = 4), FLX (vM E) (eLU E stk) cur k 1 n 0 = [] → _ := fun h hx => ih 1 n 0 m1 (okn01 ho0 h) hx
        refine ⟨fun lev a a' g hc => ?_, fun lev ac b b' g hc => ?_⟩
        · by_cases q3 : gi (vA E) 16 (f + 1) = 3
          · rw [cdc5_1n q1 q3] at hc
            obtain ⟨b1, c1, c2, c3, c4⟩ := hc
            by_cases z1 : gi (vM E) 7 n = 3 ∧ gi (vA E) 14 (eLU E stk (nd (vM E) 12 n)) = 1 ∧ gi (vA E) 16 (eLU E stk (nd (vM E) 12 n)) = 3
            · rw [if_pos z1] at c4; omega
            rw [if_neg z1] at c4
            by_cases z2 : gi (vM E) 7 n = 3 ∧ gi (vA E) 14 (eLU E stk (nd (vM E) 12 n)) = 1 ∨ gi (vM E) 7 n = 4 ∧ gi (vA E) 14 (eLU E stk (nd (vM E) 12 n)) = 2
            · rw [if_pos z2] at c4
              obtain ⟨b2, d1, d2, d3⟩ := c4
              have hx : FLX (vM E) (eLU E stk) cur k 1 n 0 = [] := s2 (z2.imp (fun c => ⟨c.1, ((hS.is hk (by decide) (by decide)).mp c.2).1, ((hS.is hk (by decide) (by decide)).mp c.2).2.elim Or.inr Or.inl⟩) (fun c => c.1))
              have := (i1 (z2.imp (fun c => c.1) (fun c => c.1)) hx).1 _ _ _ _ d1
              omega
            · rw [if_neg z2] at c4
              obtain ⟨_, b2, d1, d2, d3⟩ := c4
              have := i0.1 _ _ _ _ d1
              omega
          · rw [cdc5_1v q1 q3] at hc
            exact i0.1 _ _ _ _ hc
        · rw [CDM] at hc
          try dsimp only at hc
          rw [if_neg (by decide), if_neg (by decide), if_neg (by decide), if_pos rfl, if_pos q1] at hc
          obtain ⟨_, _, th, b1, _, _, _, c1, c2⟩ := hc
          by_cases z1 : gi (vM E) 7 n = 4 ∨ gi (vM E) 7 n = 3 ∧ (gi (vM E) 19 (eLU E stk (nd (vM E) 12 n) - 1) = 1 ∨ FO (vM E) (eLU E stk (nd (vM E) 12 n) - 1) 1 ∧ gi (vM E) 28 (eLU E stk (nd (vM E) 12 n) - 1) ≠ 0)
          · rw [if_pos z1] at c2
            cases k with
            | zero => exact c2.2.1.elim
            | succ k =>
              have hx : FLX (vM E) (eLU E stk) cur (k + 1) 1 n 0 = [] := by
                rcases z1 with z | ⟨z, z'⟩
                · exact s2 (Or.inr z)
                · rw [flx0_3 z] at s1
                  exact s2 (Or.inl ⟨z, (flY_n h0 s1).1, z'.elim Or.inr (fun c => Or.inl c.1)⟩)
              have := (i1 (z1.elim Or.inr (fun c => Or.inl c.1)) hx).2 _ _ _ _ _ c2.2.1
              omega
          rw [if_neg z1] at c2
          by_cases z2 : gi (vM E) 7 n = 3 ∧ FO (vM E) (eLU E stk (nd (vM E) 12 n) - 1) 1
          · rw [if_pos z2] at c2; omega
          · rw [if_neg z2] at c2
            have := i0.2 _ _ _ _ _ c2.2.1
            omega
      by_cases q4 : gi (vM E) 24 f = 4
      · rw [flx5_4 q4] at hf
        have i2 := ih 2 n 0 m2 (okn02 (o3 q4).1 hf) hf
        refine ⟨fun lev a a' g hc => ?_, fun lev ac b b' g hc => ?_⟩
        · rw [cdc5_4 q4] at hc
          obtain ⟨b1, b2, c1, c2, c3, c4, c5, c6⟩ := hc
          have := i2.1 _ _ _ _ c2
          omega
        · rw [CDM] at hc
          try dsimp only at hc
          rw [if_neg (by decide), if_neg (by decide), if_neg (by decide), if_pos rfl, if_neg q1, if_pos q4] at hc
          obtain ⟨_, _, th, b1, _, _, _, _, c1, c2, _⟩ := hc
          have := i2.2 _ _ _ _ _ c2
          omega
      have q0 : gi (vM E) 24 f ≠ 0 := by
        obtain ⟨kd, m, C, c1, c2, c3, c4, c5, c6, c7, c8, c9, c10, c10', c11⟩ := hS
        exact (c10' f (by omega) hf6).1
      refine ⟨fun lev a a' g hc => ?_, fun lev ac b b' g hc => ?_⟩
      · rw [cdc5_d q1 q4 q0] at hc
        rcases hc with ⟨_, c⟩ | ⟨_, c⟩
        · omega
        · exact puC_le c
      · rw [CDM] at hc
        try dsimp only at hc
        rw [if_neg (by decide), if_neg (by decide), if_neg (by decide), if_pos rfl, if_neg q1, if_neg q4, if_neg q0] at hc
        omega
end MO
